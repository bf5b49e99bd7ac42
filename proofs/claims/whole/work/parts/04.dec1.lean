theorem dX1_rowFits_10 : decode cX1_rowFits 10 = .ok (.iload_n 2, 1) := by decide +kernel
theorem dX1_rowFits_11 : decode cX1_rowFits 11 = .ok (.ifCond .ge 5, 3) := by decide +kernel
theorem dX1_rowFits_14 : decode cX1_rowFits 14 = .ok (.iconst 0, 1) := by decide +kernel
theorem dX1_rowFits_15 : decode cX1_rowFits 15 = .ok (.ireturn, 1) := by decide +kernel
theorem dX1_rowFits_16 : decode cX1_rowFits 16 = .ok (.aload_n 0, 1) := by decide +kernel
theorem dX1_rowFits_17 : decode cX1_rowFits 17 = .ok (.getfield 21, 3) := by decide +kernel
theorem dX1_rowFits_20 : decode cX1_rowFits 20 = .ok (.iload_n 2, 1) := by decide +kernel
theorem dX1_rowFits_21 : decode cX1_rowFits 21 = .ok (.iaload, 1) := by decide +kernel
theorem dX1_rowFits_22 : decode cX1_rowFits 22 = .ok (.aload_n 0, 1) := by decide +kernel
theorem dX1_rowFits_23 : decode cX1_rowFits 23 = .ok (.getfield 24, 3) := by decide +kernel
theorem dX1_rowFits_26 : decode cX1_rowFits 26 = .ok (.iload_n 1, 1) := by decide +kernel
theorem dX1_rowFits_27 : decode cX1_rowFits 27 = .ok (.iaload, 1) := by decide +kernel
theorem dX1_rowFits_28 : decode cX1_rowFits 28 = .ok (.isub, 1) := by decide +kernel
theorem dX1_rowFits_29 : decode cX1_rowFits 29 = .ok (.istore_n 3, 1) := by decide +kernel
theorem dX1_rowFits_30 : decode cX1_rowFits 30 = .ok (.iload_n 1, 1) := by decide +kernel
theorem dX1_rowFits_31 : decode cX1_rowFits 31 = .ok (.aload_n 0, 1) := by decide +kernel
theorem dX1_rowFits_32 : decode cX1_rowFits 32 = .ok (.getfield 67, 3) := by decide +kernel
theorem dX1_rowFits_35 : decode cX1_rowFits 35 = .ok (.if_icmp .ne 10, 3) := by decide +kernel
theorem dX1_rowFits_38 : decode cX1_rowFits 38 = .ok (.aload_n 0, 1) := by decide +kernel
theorem dX1_rowFits_39 : decode cX1_rowFits 39 = .ok (.getfield 92, 3) := by decide +kernel
theorem dX1_rowFits_42 : decode cX1_rowFits 42 = .ok (.goto 4, 3) := by decide +kernel
theorem dX1_rowFits_45 : decode cX1_rowFits 45 = .ok (.iload_n 3, 1) := by decide +kernel
theorem dX1_rowFits_46 : decode cX1_rowFits 46 = .ok (.istore 4, 2) := by decide +kernel
theorem dX1_rowFits_48 : decode cX1_rowFits 48 = .ok (.iload 4, 2) := by decide +kernel
theorem dX1_rowFits_50 : decode cX1_rowFits 50 = .ok (.ifCond .lt 9, 3) := by decide +kernel
theorem dX1_rowFits_53 : decode cX1_rowFits 53 = .ok (.iload 4, 2) := by decide +kernel
theorem dX1_rowFits_55 : decode cX1_rowFits 55 = .ok (.iload_n 3, 1) := by decide +kernel
theorem dX1_rowFits_56 : decode cX1_rowFits 56 = .ok (.if_icmp .le 5, 3) := by decide +kernel
theorem dX1_rowFits_59 : decode cX1_rowFits 59 = .ok (.iconst 0, 1) := by decide +kernel
theorem dX1_rowFits_60 : decode cX1_rowFits 60 = .ok (.ireturn, 1) := by decide +kernel
theorem dX1_rowFits_61 : decode cX1_rowFits 61 = .ok (.aload_n 0, 1) := by decide +kernel
theorem dX1_rowFits_62 : decode cX1_rowFits 62 = .ok (.getfield 9, 3) := by decide +kernel
theorem dX1_rowFits_65 : decode cX1_rowFits 65 = .ok (.iload_n 1, 1) := by decide +kernel
theorem dX1_rowFits_66 : decode cX1_rowFits 66 = .ok (.iload 4, 2) := by decide +kernel
theorem dX1_rowFits_68 : decode cX1_rowFits 68 = .ok (.ifCond .ne 7, 3) := by decide +kernel
theorem dX1_rowFits_71 : decode cX1_rowFits 71 = .ok (.iconst (-1), 1) := by decide +kernel
theorem dX1_rowFits_72 : decode cX1_rowFits 72 = .ok (.goto 9, 3) := by decide +kernel
theorem dX1_rowFits_75 : decode cX1_rowFits 75 = .ok (.aload_n 0, 1) := by decide +kernel
theorem dX1_rowFits_76 : decode cX1_rowFits 76 = .ok (.getfield 18, 3) := by decide +kernel
theorem dX1_rowFits_79 : decode cX1_rowFits 79 = .ok (.iload_n 2, 1) := by decide +kernel
theorem dX1_rowFits_80 : decode cX1_rowFits 80 = .ok (.iaload, 1) := by decide +kernel
theorem dX1_rowFits_81 : decode cX1_rowFits 81 = .ok (.iastore, 1) := by decide +kernel
theorem dX1_rowFits_82 : decode cX1_rowFits 82 = .ok (.aload_n 0, 1) := by decide +kernel
theorem dX1_rowFits_83 : decode cX1_rowFits 83 = .ok (.getfield 15, 3) := by decide +kernel
theorem dX1_rowFits_86 : decode cX1_rowFits 86 = .ok (.iload_n 1, 1) := by decide +kernel
theorem dX1_rowFits_87 : decode cX1_rowFits 87 = .ok (.iload 4, 2) := by decide +kernel
theorem dX1_rowFits_89 : decode cX1_rowFits 89 = .ok (.iastore, 1) := by decide +kernel
theorem dX1_rowFits_90 : decode cX1_rowFits 90 = .ok (.iconst 0, 1) := by decide +kernel
theorem dX1_rowFits_91 : decode cX1_rowFits 91 = .ok (.istore 5, 2) := by decide +kernel
theorem dX1_rowFits_93 : decode cX1_rowFits 93 = .ok (.iload 5, 2) := by decide +kernel
theorem dX1_rowFits_95 : decode cX1_rowFits 95 = .ok (.iload 4, 2) := by decide +kernel
theorem dX1_rowFits_97 : decode cX1_rowFits 97 = .ok (.if_icmp .ge 28, 3) := by decide +kernel
theorem dX1_rowFits_100 : decode cX1_rowFits 100 = .ok (.aload_n 0, 1) := by decide +kernel
theorem dX1_rowFits_101 : decode cX1_rowFits 101 = .ok (.getfield 18, 3) := by decide +kernel
theorem dX1_rowFits_104 : decode cX1_rowFits 104 = .ok (.iload_n 2, 1) := by decide +kernel
theorem dX1_rowFits_105 : decode cX1_rowFits 105 = .ok (.aload_n 0, 1) := by decide +kernel
theorem dX1_rowFits_106 : decode cX1_rowFits 106 = .ok (.getfield 37, 3) := by decide +kernel
theorem dX1_rowFits_109 : decode cX1_rowFits 109 = .ok (.aload_n 0, 1) := by decide +kernel
theorem dX1_rowFits_110 : decode cX1_rowFits 110 = .ok (.getfield 18, 3) := by decide +kernel
theorem dX1_rowFits_113 : decode cX1_rowFits 113 = .ok (.iload_n 2, 1) := by decide +kernel
theorem dX1_rowFits_114 : decode cX1_rowFits 114 = .ok (.iaload, 1) := by decide +kernel
theorem dX1_rowFits_115 : decode cX1_rowFits 115 = .ok (.invokevirtual 136, 3) := by decide +kernel
theorem dX1_rowFits_118 : decode cX1_rowFits 118 = .ok (.iastore, 1) := by decide +kernel
theorem dX1_rowFits_119 : decode cX1_rowFits 119 = .ok (.iinc 5 1, 3) := by decide +kernel
theorem dX1_rowFits_122 : decode cX1_rowFits 122 = .ok (.goto (-29), 3) := by decide +kernel
theorem dX1_rowFits_125 : decode cX1_rowFits 125 = .ok (.aload_n 0, 1) := by decide +kernel
theorem dX1_rowFits_126 : decode cX1_rowFits 126 = .ok (.getfield 21, 3) := by decide +kernel
theorem dX1_rowFits_129 : decode cX1_rowFits 129 = .ok (.iload_n 2, 1) := by decide +kernel
theorem dX1_rowFits_130 : decode cX1_rowFits 130 = .ok (.dup2, 1) := by decide +kernel
theorem dX1_rowFits_131 : decode cX1_rowFits 131 = .ok (.iaload, 1) := by decide +kernel
theorem dX1_rowFits_132 : decode cX1_rowFits 132 = .ok (.iload 4, 2) := by decide +kernel
theorem dX1_rowFits_134 : decode cX1_rowFits 134 = .ok (.isub, 1) := by decide +kernel
theorem dX1_rowFits_135 : decode cX1_rowFits 135 = .ok (.iastore, 1) := by decide +kernel
theorem dX1_rowFits_136 : decode cX1_rowFits 136 = .ok (.aload_n 0, 1) := by decide +kernel
theorem dX1_rowFits_137 : decode cX1_rowFits 137 = .ok (.getfield 41, 3) := by decide +kernel
theorem dX1_rowFits_140 : decode cX1_rowFits 140 = .ok (.getfield 55, 3) := by decide +kernel
theorem dX1_rowFits_143 : decode cX1_rowFits 143 = .ok (.aload_n 0, 1) := by decide +kernel
theorem dX1_rowFits_144 : decode cX1_rowFits 144 = .ok (.getfield 41, 3) := by decide +kernel
theorem dX1_rowFits_147 : decode cX1_rowFits 147 = .ok (.getfield 127, 3) := by decide +kernel
theorem dX1_rowFits_150 : decode cX1_rowFits 150 = .ok (.iload_n 1, 1) := by decide +kernel
theorem dX1_rowFits_151 : decode cX1_rowFits 151 = .ok (.iaload, 1) := by decide +kernel
theorem dX1_rowFits_152 : decode cX1_rowFits 152 = .ok (.iaload, 1) := by decide +kernel
theorem dX1_rowFits_153 : decode cX1_rowFits 153 = .ok (.istore 5, 2) := by decide +kernel
theorem dX1_rowFits_155 : decode cX1_rowFits 155 = .ok (.iload 5, 2) := by decide +kernel
theorem dX1_rowFits_157 : decode cX1_rowFits 157 = .ok (.iload_n 1, 1) := by decide +kernel
theorem dX1_rowFits_158 : decode cX1_rowFits 158 = .ok (.if_icmp .eq 13, 3) := by decide +kernel
theorem dX1_rowFits_161 : decode cX1_rowFits 161 = .ok (.aload_n 0, 1) := by decide +kernel
theorem dX1_rowFits_162 : decode cX1_rowFits 162 = .ok (.iload 5, 2) := by decide +kernel
theorem dX1_rowFits_164 : decode cX1_rowFits 164 = .ok (.iload_n 1, 1) := by decide +kernel
theorem dX1_rowFits_165 : decode cX1_rowFits 165 = .ok (.invokevirtual 139, 3) := by decide +kernel
theorem dX1_rowFits_168 : decode cX1_rowFits 168 = .ok (.ifCond .eq 7, 3) := by decide +kernel
theorem dX1_rowFits_171 : decode cX1_rowFits 171 = .ok (.iconst 1, 1) := by decide +kernel
theorem dX1_rowFits_172 : decode cX1_rowFits 172 = .ok (.goto 4, 3) := by decide +kernel
theorem dX1_rowFits_175 : decode cX1_rowFits 175 = .ok (.iconst 0, 1) := by decide +kernel
theorem dX1_rowFits_176 : decode cX1_rowFits 176 = .ok (.ireturn, 1) := by decide +kernel
theorem dX1_rowsAlike_0 : decode cX1_rowsAlike 0 = .ok (.aload_n 0, 1) := by decide +kernel
theorem dX1_rowsAlike_1 : decode cX1_rowsAlike 1 = .ok (.getfield 15, 3) := by decide +kernel
theorem dX1_rowsAlike_4 : decode cX1_rowsAlike 4 = .ok (.iload_n 1, 1) := by decide +kernel
theorem dX1_rowsAlike_5 : decode cX1_rowsAlike 5 = .ok (.iaload, 1) := by decide +kernel
theorem dX1_rowsAlike_6 : decode cX1_rowsAlike 6 = .ok (.aload_n 0, 1) := by decide +kernel
theorem dX1_rowsAlike_7 : decode cX1_rowsAlike 7 = .ok (.getfield 15, 3) := by decide +kernel
theorem dX1_rowsAlike_10 : decode cX1_rowsAlike 10 = .ok (.iload_n 2, 1) := by decide +kernel
theorem dX1_rowsAlike_11 : decode cX1_rowsAlike 11 = .ok (.iaload, 1) := by decide +kernel
theorem dX1_rowsAlike_12 : decode cX1_rowsAlike 12 = .ok (.if_icmp .eq 5, 3) := by decide +kernel
theorem dX1_rowsAlike_15 : decode cX1_rowsAlike 15 = .ok (.iconst 0, 1) := by decide +kernel
theorem dX1_rowsAlike_16 : decode cX1_rowsAlike 16 = .ok (.ireturn, 1) := by decide +kernel
theorem dX1_rowsAlike_17 : decode cX1_rowsAlike 17 = .ok (.aload_n 0, 1) := by decide +kernel
theorem dX1_rowsAlike_18 : decode cX1_rowsAlike 18 = .ok (.getfield 9, 3) := by decide +kernel
theorem dX1_rowsAlike_21 : decode cX1_rowsAlike 21 = .ok (.iload_n 1, 1) := by decide +kernel
theorem dX1_rowsAlike_22 : decode cX1_rowsAlike 22 = .ok (.iaload, 1) := by decide +kernel
theorem dX1_rowsAlike_23 : decode cX1_rowsAlike 23 = .ok (.istore_n 3, 1) := by decide +kernel
theorem dX1_rowsAlike_24 : decode cX1_rowsAlike 24 = .ok (.aload_n 0, 1) := by decide +kernel
theorem dX1_rowsAlike_25 : decode cX1_rowsAlike 25 = .ok (.getfield 9, 3) := by decide +kernel
theorem dX1_rowsAlike_28 : decode cX1_rowsAlike 28 = .ok (.iload_n 2, 1) := by decide +kernel
theorem dX1_rowsAlike_29 : decode cX1_rowsAlike 29 = .ok (.iaload, 1) := by decide +kernel
theorem dX1_rowsAlike_30 : decode cX1_rowsAlike 30 = .ok (.istore 4, 2) := by decide +kernel
theorem dX1_rowsAlike_32 : decode cX1_rowsAlike 32 = .ok (.iconst 0, 1) := by decide +kernel
theorem dX1_rowsAlike_33 : decode cX1_rowsAlike 33 = .ok (.istore 5, 2) := by decide +kernel
theorem dX1_rowsAlike_35 : decode cX1_rowsAlike 35 = .ok (.iload 5, 2) := by decide +kernel
theorem dX1_rowsAlike_37 : decode cX1_rowsAlike 37 = .ok (.aload_n 0, 1) := by decide +kernel
theorem dX1_rowsAlike_38 : decode cX1_rowsAlike 38 = .ok (.getfield 15, 3) := by decide +kernel
theorem dX1_rowsAlike_41 : decode cX1_rowsAlike 41 = .ok (.iload_n 1, 1) := by decide +kernel
theorem dX1_rowsAlike_42 : decode cX1_rowsAlike 42 = .ok (.iaload, 1) := by decide +kernel
theorem dX1_rowsAlike_43 : decode cX1_rowsAlike 43 = .ok (.if_icmp .ge 94, 3) := by decide +kernel
theorem dX1_rowsAlike_46 : decode cX1_rowsAlike 46 = .ok (.iload_n 3, 1) := by decide +kernel
theorem dX1_rowsAlike_47 : decode cX1_rowsAlike 47 = .ok (.ifCond .lt 31, 3) := by decide +kernel
theorem dX1_rowsAlike_50 : decode cX1_rowsAlike 50 = .ok (.iload 4, 2) := by decide +kernel
theorem dX1_rowsAlike_52 : decode cX1_rowsAlike 52 = .ok (.ifCond .lt 26, 3) := by decide +kernel
theorem dX1_rowsAlike_55 : decode cX1_rowsAlike 55 = .ok (.iload_n 3, 1) := by decide +kernel
theorem dX1_rowsAlike_56 : decode cX1_rowsAlike 56 = .ok (.aload_n 0, 1) := by decide +kernel
theorem dX1_rowsAlike_57 : decode cX1_rowsAlike 57 = .ok (.getfield 37, 3) := by decide +kernel
theorem dX1_rowsAlike_60 : decode cX1_rowsAlike 60 = .ok (.getfield 60, 3) := by decide +kernel
theorem dX1_rowsAlike_63 : decode cX1_rowsAlike 63 = .ok (.if_icmp .ge 15, 3) := by decide +kernel
theorem dX1_rowsAlike_66 : decode cX1_rowsAlike 66 = .ok (.iload 4, 2) := by decide +kernel
theorem dX1_rowsAlike_68 : decode cX1_rowsAlike 68 = .ok (.aload_n 0, 1) := by decide +kernel
theorem dX1_rowsAlike_69 : decode cX1_rowsAlike 69 = .ok (.getfield 37, 3) := by decide +kernel
theorem dX1_rowsAlike_72 : decode cX1_rowsAlike 72 = .ok (.getfield 60, 3) := by decide +kernel
theorem dX1_rowsAlike_75 : decode cX1_rowsAlike 75 = .ok (.if_icmp .lt 5, 3) := by decide +kernel
theorem dX1_rowsAlike_78 : decode cX1_rowsAlike 78 = .ok (.iconst 0, 1) := by decide +kernel
theorem dX1_rowsAlike_79 : decode cX1_rowsAlike 79 = .ok (.ireturn, 1) := by decide +kernel
theorem dX1_rowsAlike_80 : decode cX1_rowsAlike 80 = .ok (.aload_n 0, 1) := by decide +kernel
theorem dX1_rowsAlike_81 : decode cX1_rowsAlike 81 = .ok (.getfield 37, 3) := by decide +kernel
theorem dX1_rowsAlike_84 : decode cX1_rowsAlike 84 = .ok (.getfield 130, 3) := by decide +kernel
theorem dX1_rowsAlike_87 : decode cX1_rowsAlike 87 = .ok (.iload_n 3, 1) := by decide +kernel
theorem dX1_rowsAlike_88 : decode cX1_rowsAlike 88 = .ok (.iaload, 1) := by decide +kernel
theorem dX1_rowsAlike_89 : decode cX1_rowsAlike 89 = .ok (.aload_n 0, 1) := by decide +kernel
theorem dX1_rowsAlike_90 : decode cX1_rowsAlike 90 = .ok (.getfield 37, 3) := by decide +kernel
theorem dX1_rowsAlike_93 : decode cX1_rowsAlike 93 = .ok (.getfield 130, 3) := by decide +kernel
theorem dX1_rowsAlike_96 : decode cX1_rowsAlike 96 = .ok (.iload 4, 2) := by decide +kernel
theorem dX1_rowsAlike_98 : decode cX1_rowsAlike 98 = .ok (.iaload, 1) := by decide +kernel
theorem dX1_rowsAlike_99 : decode cX1_rowsAlike 99 = .ok (.if_icmp .eq 5, 3) := by decide +kernel
theorem dX1_rowsAlike_102 : decode cX1_rowsAlike 102 = .ok (.iconst 0, 1) := by decide +kernel
theorem dX1_rowsAlike_103 : decode cX1_rowsAlike 103 = .ok (.ireturn, 1) := by decide +kernel
theorem dX1_rowsAlike_104 : decode cX1_rowsAlike 104 = .ok (.iload_n 3, 1) := by decide +kernel
theorem dX1_rowsAlike_105 : decode cX1_rowsAlike 105 = .ok (.aload_n 0, 1) := by decide +kernel
theorem dX1_rowsAlike_106 : decode cX1_rowsAlike 106 = .ok (.getfield 37, 3) := by decide +kernel
theorem dX1_rowsAlike_109 : decode cX1_rowsAlike 109 = .ok (.getfield 114, 3) := by decide +kernel
theorem dX1_rowsAlike_112 : decode cX1_rowsAlike 112 = .ok (.iload_n 3, 1) := by decide +kernel
theorem dX1_rowsAlike_113 : decode cX1_rowsAlike 113 = .ok (.iaload, 1) := by decide +kernel
theorem dX1_rowsAlike_114 : decode cX1_rowsAlike 114 = .ok (.iadd, 1) := by decide +kernel
theorem dX1_rowsAlike_115 : decode cX1_rowsAlike 115 = .ok (.istore_n 3, 1) := by decide +kernel
theorem dX1_rowsAlike_116 : decode cX1_rowsAlike 116 = .ok (.iload 4, 2) := by decide +kernel
theorem dX1_rowsAlike_118 : decode cX1_rowsAlike 118 = .ok (.aload_n 0, 1) := by decide +kernel
theorem dX1_rowsAlike_119 : decode cX1_rowsAlike 119 = .ok (.getfield 37, 3) := by decide +kernel
theorem dX1_rowsAlike_122 : decode cX1_rowsAlike 122 = .ok (.getfield 114, 3) := by decide +kernel
theorem dX1_rowsAlike_125 : decode cX1_rowsAlike 125 = .ok (.iload 4, 2) := by decide +kernel
theorem dX1_rowsAlike_127 : decode cX1_rowsAlike 127 = .ok (.iaload, 1) := by decide +kernel
theorem dX1_rowsAlike_128 : decode cX1_rowsAlike 128 = .ok (.iadd, 1) := by decide +kernel
theorem dX1_rowsAlike_129 : decode cX1_rowsAlike 129 = .ok (.istore 4, 2) := by decide +kernel
theorem dX1_rowsAlike_131 : decode cX1_rowsAlike 131 = .ok (.iinc 5 1, 3) := by decide +kernel
theorem dX1_rowsAlike_134 : decode cX1_rowsAlike 134 = .ok (.goto (-99), 3) := by decide +kernel
theorem dX1_rowsAlike_137 : decode cX1_rowsAlike 137 = .ok (.iconst 1, 1) := by decide +kernel
theorem dX1_rowsAlike_138 : decode cX1_rowsAlike 138 = .ok (.ireturn, 1) := by decide +kernel
theorem dX2_init_0 : decode cX2_init 0 = .ok (.aload_n 0, 1) := by decide +kernel
theorem dX2_init_1 : decode cX2_init 1 = .ok (.invokespecial 3, 3) := by decide +kernel
theorem dX2_init_4 : decode cX2_init 4 = .ok (.aload_n 0, 1) := by decide +kernel
theorem dX2_init_5 : decode cX2_init 5 = .ok (.bipush 11, 2) := by decide +kernel
theorem dX2_init_7 : decode cX2_init 7 = .ok (.sipush 240, 3) := by decide +kernel
theorem dX2_init_10 : decode cX2_init 10 = .ok (.multianewarray 11 2, 4) := by decide +kernel
theorem dX2_init_14 : decode cX2_init 14 = .ok (.putfield 13, 3) := by decide +kernel
theorem dX2_init_17 : decode cX2_init 17 = .ok (.aload_n 0, 1) := by decide +kernel
theorem dX2_init_18 : decode cX2_init 18 = .ok (.bipush 11, 2) := by decide +kernel
theorem dX2_init_20 : decode cX2_init 20 = .ok (.newarray .int, 2) := by decide +kernel
theorem dX2_init_22 : decode cX2_init 22 = .ok (.putfield 16, 3) := by decide +kernel
theorem dX2_init_25 : decode cX2_init 25 = .ok (.return_, 1) := by decide +kernel
theorem dX2_write_0 : decode cX2_write 0 = .ok (.aload_n 1, 1) := by decide +kernel
theorem dX2_write_1 : decode cX2_write 1 = .ok (.getfield 20, 3) := by decide +kernel
theorem dX2_write_4 : decode cX2_write 4 = .ok (.iconst 0, 1) := by decide +kernel
theorem dX2_write_5 : decode cX2_write 5 = .ok (.aload_n 0, 1) := by decide +kernel
theorem dX2_write_6 : decode cX2_write 6 = .ok (.getfield 13, 3) := by decide +kernel
theorem dX2_write_9 : decode cX2_write 9 = .ok (.aload_n 0, 1) := by decide +kernel
theorem dX2_write_10 : decode cX2_write 10 = .ok (.getfield 25, 3) := by decide +kernel
theorem dX2_write_13 : decode cX2_write 13 = .ok (.aaload, 1) := by decide +kernel
theorem dX2_write_14 : decode cX2_write 14 = .ok (.iconst 0, 1) := by decide +kernel
theorem dX2_write_15 : decode cX2_write 15 = .ok (.aload_n 1, 1) := by decide +kernel
theorem dX2_write_16 : decode cX2_write 16 = .ok (.getfield 29, 3) := by decide +kernel
theorem dX2_write_19 : decode cX2_write 19 = .ok (.invokestatic 32, 3) := by decide +kernel
theorem dX2_write_22 : decode cX2_write 22 = .ok (.aload_n 0, 1) := by decide +kernel
theorem dX2_write_23 : decode cX2_write 23 = .ok (.getfield 16, 3) := by decide +kernel
theorem dX2_write_26 : decode cX2_write 26 = .ok (.aload_n 0, 1) := by decide +kernel
theorem dX2_write_27 : decode cX2_write 27 = .ok (.getfield 25, 3) := by decide +kernel
theorem dX2_write_30 : decode cX2_write 30 = .ok (.aload_n 1, 1) := by decide +kernel
theorem dX2_write_31 : decode cX2_write 31 = .ok (.getfield 29, 3) := by decide +kernel
theorem dX2_write_34 : decode cX2_write 34 = .ok (.iastore, 1) := by decide +kernel
theorem dX2_write_35 : decode cX2_write 35 = .ok (.return_, 1) := by decide +kernel
theorem dX2_keepWritten_0 : decode cX2_keepWritten 0 = .ok (.aload_n 0, 1) := by decide +kernel
theorem dX2_keepWritten_1 : decode cX2_keepWritten 1 = .ok (.aload_n 0, 1) := by decide +kernel
theorem dX2_keepWritten_2 : decode cX2_keepWritten 2 = .ok (.getfield 25, 3) := by decide +kernel
theorem dX2_keepWritten_5 : decode cX2_keepWritten 5 = .ok (.iconst 1, 1) := by decide +kernel
theorem dX2_keepWritten_6 : decode cX2_keepWritten 6 = .ok (.iadd, 1) := by decide +kernel
theorem dX2_keepWritten_7 : decode cX2_keepWritten 7 = .ok (.bipush 11, 2) := by decide +kernel
theorem dX2_keepWritten_9 : decode cX2_keepWritten 9 = .ok (.if_icmp .ge 12, 3) := by decide +kernel
theorem dX2_keepWritten_12 : decode cX2_keepWritten 12 = .ok (.aload_n 0, 1) := by decide +kernel
theorem dX2_keepWritten_13 : decode cX2_keepWritten 13 = .ok (.getfield 25, 3) := by decide +kernel
theorem dX2_keepWritten_16 : decode cX2_keepWritten 16 = .ok (.iconst 1, 1) := by decide +kernel
theorem dX2_keepWritten_17 : decode cX2_keepWritten 17 = .ok (.iadd, 1) := by decide +kernel
theorem dX2_keepWritten_18 : decode cX2_keepWritten 18 = .ok (.goto 4, 3) := by decide +kernel
theorem dX2_keepWritten_21 : decode cX2_keepWritten 21 = .ok (.iconst 0, 1) := by decide +kernel
theorem dX2_keepWritten_22 : decode cX2_keepWritten 22 = .ok (.putfield 25, 3) := by decide +kernel
theorem dX2_keepWritten_25 : decode cX2_keepWritten 25 = .ok (.aload_n 0, 1) := by decide +kernel
theorem dX2_keepWritten_26 : decode cX2_keepWritten 26 = .ok (.aload_n 0, 1) := by decide +kernel
theorem dX2_keepWritten_27 : decode cX2_keepWritten 27 = .ok (.getfield 38, 3) := by decide +kernel
theorem dX2_keepWritten_30 : decode cX2_keepWritten 30 = .ok (.iconst 1, 1) := by decide +kernel
theorem dX2_keepWritten_31 : decode cX2_keepWritten 31 = .ok (.iadd, 1) := by decide +kernel
theorem dX2_keepWritten_32 : decode cX2_keepWritten 32 = .ok (.bipush 10, 2) := by decide +kernel
theorem dX2_keepWritten_34 : decode cX2_keepWritten 34 = .ok (.invokestatic 41, 3) := by decide +kernel
theorem dX2_keepWritten_37 : decode cX2_keepWritten 37 = .ok (.putfield 38, 3) := by decide +kernel
theorem dX2_keepWritten_40 : decode cX2_keepWritten 40 = .ok (.return_, 1) := by decide +kernel
theorem dX2_readWritten_0 : decode cX2_readWritten 0 = .ok (.aload_n 1, 1) := by decide +kernel
theorem dX2_readWritten_1 : decode cX2_readWritten 1 = .ok (.aload_n 0, 1) := by decide +kernel
theorem dX2_readWritten_2 : decode cX2_readWritten 2 = .ok (.getfield 13, 3) := by decide +kernel
theorem dX2_readWritten_5 : decode cX2_readWritten 5 = .ok (.aload_n 0, 1) := by decide +kernel
theorem dX2_readWritten_6 : decode cX2_readWritten 6 = .ok (.getfield 25, 3) := by decide +kernel
theorem dX2_readWritten_9 : decode cX2_readWritten 9 = .ok (.aaload, 1) := by decide +kernel
theorem dX2_readWritten_10 : decode cX2_readWritten 10 = .ok (.aload_n 0, 1) := by decide +kernel
theorem dX2_readWritten_11 : decode cX2_readWritten 11 = .ok (.getfield 16, 3) := by decide +kernel
theorem dX2_readWritten_14 : decode cX2_readWritten 14 = .ok (.aload_n 0, 1) := by decide +kernel
theorem dX2_readWritten_15 : decode cX2_readWritten 15 = .ok (.getfield 25, 3) := by decide +kernel
theorem dX2_readWritten_18 : decode cX2_readWritten 18 = .ok (.iaload, 1) := by decide +kernel
theorem dX2_readWritten_19 : decode cX2_readWritten 19 = .ok (.invokevirtual 47, 3) := by decide +kernel
theorem dX2_readWritten_22 : decode cX2_readWritten 22 = .ok (.return_, 1) := by decide +kernel
theorem dX2_stepBack_0 : decode cX2_stepBack 0 = .ok (.aload_n 0, 1) := by decide +kernel
theorem dX2_stepBack_1 : decode cX2_stepBack 1 = .ok (.getfield 38, 3) := by decide +kernel
theorem dX2_stepBack_4 : decode cX2_stepBack 4 = .ok (.ifCond .ne 5, 3) := by decide +kernel
theorem dX2_stepBack_7 : decode cX2_stepBack 7 = .ok (.iconst 0, 1) := by decide +kernel
theorem dX2_stepBack_8 : decode cX2_stepBack 8 = .ok (.ireturn, 1) := by decide +kernel
theorem dX2_stepBack_9 : decode cX2_stepBack 9 = .ok (.aload_n 0, 1) := by decide +kernel
theorem dX2_stepBack_10 : decode cX2_stepBack 10 = .ok (.dup, 1) := by decide +kernel
theorem dX2_stepBack_11 : decode cX2_stepBack 11 = .ok (.getfield 38, 3) := by decide +kernel
theorem dX2_stepBack_14 : decode cX2_stepBack 14 = .ok (.iconst 1, 1) := by decide +kernel
theorem dX2_stepBack_15 : decode cX2_stepBack 15 = .ok (.isub, 1) := by decide +kernel
theorem dX2_stepBack_16 : decode cX2_stepBack 16 = .ok (.putfield 38, 3) := by decide +kernel
theorem dX2_stepBack_19 : decode cX2_stepBack 19 = .ok (.aload_n 0, 1) := by decide +kernel
theorem dX2_stepBack_20 : decode cX2_stepBack 20 = .ok (.aload_n 0, 1) := by decide +kernel
theorem dX2_stepBack_21 : decode cX2_stepBack 21 = .ok (.getfield 25, 3) := by decide +kernel
theorem dX2_stepBack_24 : decode cX2_stepBack 24 = .ok (.ifCond .le 12, 3) := by decide +kernel
theorem dX2_stepBack_27 : decode cX2_stepBack 27 = .ok (.aload_n 0, 1) := by decide +kernel
theorem dX2_stepBack_28 : decode cX2_stepBack 28 = .ok (.getfield 25, 3) := by decide +kernel
theorem dX2_stepBack_31 : decode cX2_stepBack 31 = .ok (.iconst 1, 1) := by decide +kernel
theorem dX2_stepBack_32 : decode cX2_stepBack 32 = .ok (.isub, 1) := by decide +kernel
theorem dX2_stepBack_33 : decode cX2_stepBack 33 = .ok (.goto 5, 3) := by decide +kernel
theorem dX2_stepBack_36 : decode cX2_stepBack 36 = .ok (.bipush 10, 2) := by decide +kernel
theorem dX2_stepBack_38 : decode cX2_stepBack 38 = .ok (.putfield 25, 3) := by decide +kernel
theorem dX2_stepBack_41 : decode cX2_stepBack 41 = .ok (.iconst 1, 1) := by decide +kernel
theorem dX2_stepBack_42 : decode cX2_stepBack 42 = .ok (.ireturn, 1) := by decide +kernel
theorem dX2_forget_0 : decode cX2_forget 0 = .ok (.aload_n 0, 1) := by decide +kernel
theorem dX2_forget_1 : decode cX2_forget 1 = .ok (.iconst 0, 1) := by decide +kernel
theorem dX2_forget_2 : decode cX2_forget 2 = .ok (.putfield 38, 3) := by decide +kernel
theorem dX2_forget_5 : decode cX2_forget 5 = .ok (.return_, 1) := by decide +kernel
theorem dX3_init_0 : decode cX3_init 0 = .ok (.aload_n 0, 1) := by decide +kernel
theorem dX3_init_1 : decode cX3_init 1 = .ok (.invokespecial 3, 3) := by decide +kernel
theorem dX3_init_4 : decode cX3_init 4 = .ok (.aload_n 0, 1) := by decide +kernel
theorem dX3_init_5 : decode cX3_init 5 = .ok (.bipush 80, 2) := by decide +kernel
theorem dX3_init_7 : decode cX3_init 7 = .ok (.newarray .boolean, 2) := by decide +kernel
theorem dX3_init_9 : decode cX3_init 9 = .ok (.putfield 9, 3) := by decide +kernel
theorem dX3_init_12 : decode cX3_init 12 = .ok (.aload_n 0, 1) := by decide +kernel
theorem dX3_init_13 : decode cX3_init 13 = .ok (.aload_n 1, 1) := by decide +kernel
theorem dX3_init_14 : decode cX3_init 14 = .ok (.putfield 15, 3) := by decide +kernel
theorem dX3_init_17 : decode cX3_init 17 = .ok (.aload_n 0, 1) := by decide +kernel
theorem dX3_init_18 : decode cX3_init 18 = .ok (.aload_n 2, 1) := by decide +kernel
theorem dX3_init_19 : decode cX3_init 19 = .ok (.putfield 19, 3) := by decide +kernel
theorem dX3_init_22 : decode cX3_init 22 = .ok (.aload_n 0, 1) := by decide +kernel
theorem dX3_init_23 : decode cX3_init 23 = .ok (.aload_n 3, 1) := by decide +kernel
theorem dX3_init_24 : decode cX3_init 24 = .ok (.putfield 22, 3) := by decide +kernel
theorem dX3_init_27 : decode cX3_init 27 = .ok (.return_, 1) := by decide +kernel
theorem dX3_build_0 : decode cX3_build 0 = .ok (.aload_n 1, 1) := by decide +kernel
theorem dX3_build_1 : decode cX3_build 1 = .ok (.iconst 0, 1) := by decide +kernel
theorem dX3_build_2 : decode cX3_build 2 = .ok (.putfield 26, 3) := by decide +kernel
theorem dX3_build_5 : decode cX3_build 5 = .ok (.iconst 0, 1) := by decide +kernel
theorem dX3_build_6 : decode cX3_build 6 = .ok (.istore_n 3, 1) := by decide +kernel
theorem dX3_build_7 : decode cX3_build 7 = .ok (.iconst 0, 1) := by decide +kernel
theorem dX3_build_8 : decode cX3_build 8 = .ok (.istore 4, 2) := by decide +kernel
theorem dX3_build_10 : decode cX3_build 10 = .ok (.iload 4, 2) := by decide +kernel
theorem dX3_build_12 : decode cX3_build 12 = .ok (.aload_n 2, 1) := by decide +kernel
theorem dX3_build_13 : decode cX3_build 13 = .ok (.getfield 32, 3) := by decide +kernel
theorem dX3_build_16 : decode cX3_build 16 = .ok (.if_icmp .ge 76, 3) := by decide +kernel
theorem dX3_build_19 : decode cX3_build 19 = .ok (.aload_n 2, 1) := by decide +kernel
theorem dX3_build_20 : decode cX3_build 20 = .ok (.getfield 37, 3) := by decide +kernel
theorem dX3_build_23 : decode cX3_build 23 = .ok (.iload 4, 2) := by decide +kernel
theorem dX3_build_25 : decode cX3_build 25 = .ok (.iaload, 1) := by decide +kernel
theorem dX3_build_26 : decode cX3_build 26 = .ok (.istore 5, 2) := by decide +kernel
theorem dX3_build_28 : decode cX3_build 28 = .ok (.aload_n 1, 1) := by decide +kernel
theorem dX3_build_29 : decode cX3_build 29 = .ok (.aload_n 0, 1) := by decide +kernel
theorem dX3_build_30 : decode cX3_build 30 = .ok (.getfield 15, 3) := by decide +kernel
theorem dX3_build_33 : decode cX3_build 33 = .ok (.getfield 41, 3) := by decide +kernel
theorem dX3_build_36 : decode cX3_build 36 = .ok (.iload_n 3, 1) := by decide +kernel
theorem dX3_build_37 : decode cX3_build 37 = .ok (.aload_n 0, 1) := by decide +kernel
theorem dX3_build_38 : decode cX3_build 38 = .ok (.getfield 15, 3) := by decide +kernel
theorem dX3_build_41 : decode cX3_build 41 = .ok (.getfield 44, 3) := by decide +kernel
theorem dX3_build_44 : decode cX3_build 44 = .ok (.iload 5, 2) := by decide +kernel
theorem dX3_build_46 : decode cX3_build 46 = .ok (.iaload, 1) := by decide +kernel
theorem dX3_build_47 : decode cX3_build 47 = .ok (.invokevirtual 47, 3) := by decide +kernel
theorem dX3_build_50 : decode cX3_build 50 = .ok (.ifCond .eq 23, 3) := by decide +kernel
theorem dX3_build_53 : decode cX3_build 53 = .ok (.aload_n 0, 1) := by decide +kernel
theorem dX3_build_54 : decode cX3_build 54 = .ok (.getfield 22, 3) := by decide +kernel
theorem dX3_build_57 : decode cX3_build 57 = .ok (.iload 5, 2) := by decide +kernel
theorem dX3_build_59 : decode cX3_build 59 = .ok (.invokevirtual 51, 3) := by decide +kernel
theorem dX3_build_62 : decode cX3_build 62 = .ok (.ifCond .eq 11, 3) := by decide +kernel
theorem dX3_build_65 : decode cX3_build 65 = .ok (.aload_n 0, 1) := by decide +kernel
theorem dX3_build_66 : decode cX3_build 66 = .ok (.aload_n 1, 1) := by decide +kernel
theorem dX3_build_67 : decode cX3_build 67 = .ok (.invokevirtual 57, 3) := by decide +kernel
theorem dX3_build_70 : decode cX3_build 70 = .ok (.ifCond .ne 5, 3) := by decide +kernel
theorem dX3_build_73 : decode cX3_build 73 = .ok (.iconst 0, 1) := by decide +kernel
theorem dX3_build_74 : decode cX3_build 74 = .ok (.ireturn, 1) := by decide +kernel
theorem dX3_build_75 : decode cX3_build 75 = .ok (.aload_n 0, 1) := by decide +kernel
theorem dX3_build_76 : decode cX3_build 76 = .ok (.getfield 15, 3) := by decide +kernel
theorem dX3_build_79 : decode cX3_build 79 = .ok (.getfield 61, 3) := by decide +kernel
theorem dX3_build_82 : decode cX3_build 82 = .ok (.iload 5, 2) := by decide +kernel
theorem dX3_build_84 : decode cX3_build 84 = .ok (.iaload, 1) := by decide +kernel
theorem dX3_build_85 : decode cX3_build 85 = .ok (.istore_n 3, 1) := by decide +kernel
theorem dX3_build_86 : decode cX3_build 86 = .ok (.iinc 4 1, 3) := by decide +kernel
theorem dX3_build_89 : decode cX3_build 89 = .ok (.goto (-79), 3) := by decide +kernel
theorem dX3_build_92 : decode cX3_build 92 = .ok (.aload_n 1, 1) := by decide +kernel
theorem dX3_build_93 : decode cX3_build 93 = .ok (.aload_n 0, 1) := by decide +kernel
theorem dX3_build_94 : decode cX3_build 94 = .ok (.getfield 15, 3) := by decide +kernel
theorem dX3_build_97 : decode cX3_build 97 = .ok (.getfield 41, 3) := by decide +kernel
theorem dX3_build_100 : decode cX3_build 100 = .ok (.iload_n 3, 1) := by decide +kernel
theorem dX3_build_101 : decode cX3_build 101 = .ok (.aload_n 0, 1) := by decide +kernel
theorem dX3_build_102 : decode cX3_build 102 = .ok (.getfield 15, 3) := by decide +kernel
theorem dX3_build_105 : decode cX3_build 105 = .ok (.getfield 26, 3) := by decide +kernel
theorem dX3_build_108 : decode cX3_build 108 = .ok (.invokevirtual 47, 3) := by decide +kernel
theorem dX3_build_111 : decode cX3_build 111 = .ok (.ireturn, 1) := by decide +kernel
theorem dX3_fillTemplate_0 : decode cX3_fillTemplate 0 = .ok (.aload_n 0, 1) := by decide +kernel
theorem dX3_fillTemplate_1 : decode cX3_fillTemplate 1 = .ok (.invokevirtual 64, 3) := by decide +kernel
theorem dX3_fillTemplate_4 : decode cX3_fillTemplate 4 = .ok (.aload_n 0, 1) := by decide +kernel
theorem dX3_fillTemplate_5 : decode cX3_fillTemplate 5 = .ok (.getfield 19, 3) := by decide +kernel
theorem dX3_fillTemplate_8 : decode cX3_fillTemplate 8 = .ok (.getfield 61, 3) := by decide +kernel
theorem dX3_fillTemplate_11 : decode cX3_fillTemplate 11 = .ok (.iconst 0, 1) := by decide +kernel
theorem dX3_fillTemplate_12 : decode cX3_fillTemplate 12 = .ok (.iaload, 1) := by decide +kernel
theorem dX3_fillTemplate_13 : decode cX3_fillTemplate 13 = .ok (.bipush 80, 2) := by decide +kernel
theorem dX3_fillTemplate_15 : decode cX3_fillTemplate 15 = .ok (.invokestatic 67, 3) := by decide +kernel
theorem dX3_fillTemplate_18 : decode cX3_fillTemplate 18 = .ok (.istore_n 2, 1) := by decide +kernel
theorem dX3_fillTemplate_19 : decode cX3_fillTemplate 19 = .ok (.iconst 0, 1) := by decide +kernel
theorem dX3_fillTemplate_20 : decode cX3_fillTemplate 20 = .ok (.istore_n 3, 1) := by decide +kernel
theorem dX3_fillTemplate_21 : decode cX3_fillTemplate 21 = .ok (.aload_n 0, 1) := by decide +kernel
theorem dX3_fillTemplate_22 : decode cX3_fillTemplate 22 = .ok (.getfield 19, 3) := by decide +kernel
theorem dX3_fillTemplate_25 : decode cX3_fillTemplate 25 = .ok (.getfield 44, 3) := by decide +kernel
theorem dX3_fillTemplate_28 : decode cX3_fillTemplate 28 = .ok (.iconst 0, 1) := by decide +kernel
theorem dX3_fillTemplate_29 : decode cX3_fillTemplate 29 = .ok (.iaload, 1) := by decide +kernel
theorem dX3_fillTemplate_30 : decode cX3_fillTemplate 30 = .ok (.istore 4, 2) := by decide +kernel
theorem dX3_fillTemplate_32 : decode cX3_fillTemplate 32 = .ok (.iload 4, 2) := by decide +kernel
theorem dX3_fillTemplate_34 : decode cX3_fillTemplate 34 = .ok (.iload_n 2, 1) := by decide +kernel
theorem dX3_fillTemplate_35 : decode cX3_fillTemplate 35 = .ok (.if_icmp .ge 126, 3) := by decide +kernel
theorem dX3_fillTemplate_38 : decode cX3_fillTemplate 38 = .ok (.aload_n 0, 1) := by decide +kernel
theorem dX3_fillTemplate_39 : decode cX3_fillTemplate 39 = .ok (.getfield 19, 3) := by decide +kernel
theorem dX3_fillTemplate_42 : decode cX3_fillTemplate 42 = .ok (.getfield 41, 3) := by decide +kernel
theorem dX3_fillTemplate_45 : decode cX3_fillTemplate 45 = .ok (.iload 4, 2) := by decide +kernel
theorem dX3_fillTemplate_47 : decode cX3_fillTemplate 47 = .ok (.iaload, 1) := by decide +kernel
theorem dX3_fillTemplate_48 : decode cX3_fillTemplate 48 = .ok (.istore 5, 2) := by decide +kernel
theorem dX3_fillTemplate_50 : decode cX3_fillTemplate 50 = .ok (.iconst 1, 1) := by decide +kernel
theorem dX3_fillTemplate_51 : decode cX3_fillTemplate 51 = .ok (.istore 6, 2) := by decide +kernel
theorem dX3_fillTemplate_53 : decode cX3_fillTemplate 53 = .ok (.iload_n 3, 1) := by decide +kernel
theorem dX3_fillTemplate_54 : decode cX3_fillTemplate 54 = .ok (.ifCond .eq 38, 3) := by decide +kernel
theorem dX3_fillTemplate_57 : decode cX3_fillTemplate 57 = .ok (.aload_n 0, 1) := by decide +kernel
theorem dX3_fillTemplate_58 : decode cX3_fillTemplate 58 = .ok (.getfield 9, 3) := by decide +kernel
theorem dX3_fillTemplate_61 : decode cX3_fillTemplate 61 = .ok (.iload 4, 2) := by decide +kernel
theorem dX3_fillTemplate_63 : decode cX3_fillTemplate 63 = .ok (.baload, 1) := by decide +kernel
theorem dX3_fillTemplate_64 : decode cX3_fillTemplate 64 = .ok (.ifCond .ne 16, 3) := by decide +kernel
theorem dX3_fillTemplate_67 : decode cX3_fillTemplate 67 = .ok (.aload_n 0, 1) := by decide +kernel
theorem dX3_fillTemplate_68 : decode cX3_fillTemplate 68 = .ok (.aload_n 1, 1) := by decide +kernel
theorem dX3_fillTemplate_69 : decode cX3_fillTemplate 69 = .ok (.iload 5, 2) := by decide +kernel
theorem dX3_fillTemplate_71 : decode cX3_fillTemplate 71 = .ok (.bipush 97, 2) := by decide +kernel
theorem dX3_fillTemplate_73 : decode cX3_fillTemplate 73 = .ok (.isub, 1) := by decide +kernel
theorem dX3_fillTemplate_74 : decode cX3_fillTemplate 74 = .ok (.invokevirtual 73, 3) := by decide +kernel
theorem dX3_fillTemplate_77 : decode cX3_fillTemplate 77 = .ok (.ifCond .eq 7, 3) := by decide +kernel
theorem dX3_fillTemplate_80 : decode cX3_fillTemplate 80 = .ok (.iconst 1, 1) := by decide +kernel
theorem dX3_fillTemplate_81 : decode cX3_fillTemplate 81 = .ok (.goto 4, 3) := by decide +kernel
theorem dX3_fillTemplate_84 : decode cX3_fillTemplate 84 = .ok (.iconst 0, 1) := by decide +kernel
theorem dX3_fillTemplate_85 : decode cX3_fillTemplate 85 = .ok (.istore 6, 2) := by decide +kernel
theorem dX3_fillTemplate_87 : decode cX3_fillTemplate 87 = .ok (.iconst 0, 1) := by decide +kernel
theorem dX3_fillTemplate_88 : decode cX3_fillTemplate 88 = .ok (.istore_n 3, 1) := by decide +kernel
theorem dX3_fillTemplate_89 : decode cX3_fillTemplate 89 = .ok (.goto 59, 3) := by decide +kernel
theorem dX3_fillTemplate_92 : decode cX3_fillTemplate 92 = .ok (.iload 5, 2) := by decide +kernel
theorem dX3_fillTemplate_94 : decode cX3_fillTemplate 94 = .ok (.bipush 63, 2) := by decide +kernel
theorem dX3_fillTemplate_96 : decode cX3_fillTemplate 96 = .ok (.if_icmp .eq 10, 3) := by decide +kernel
theorem dX3_fillTemplate_99 : decode cX3_fillTemplate 99 = .ok (.iload 5, 2) := by decide +kernel
theorem dX3_fillTemplate_101 : decode cX3_fillTemplate 101 = .ok (.bipush 42, 2) := by decide +kernel
theorem dX3_fillTemplate_103 : decode cX3_fillTemplate 103 = .ok (.if_icmp .ne 8, 3) := by decide +kernel
theorem dX3_fillTemplate_106 : decode cX3_fillTemplate 106 = .ok (.iconst 1, 1) := by decide +kernel
theorem dX3_fillTemplate_107 : decode cX3_fillTemplate 107 = .ok (.istore_n 3, 1) := by decide +kernel
theorem dX3_fillTemplate_108 : decode cX3_fillTemplate 108 = .ok (.goto 40, 3) := by decide +kernel
theorem dX3_fillTemplate_111 : decode cX3_fillTemplate 111 = .ok (.aload_n 0, 1) := by decide +kernel
theorem dX3_fillTemplate_112 : decode cX3_fillTemplate 112 = .ok (.getfield 9, 3) := by decide +kernel
theorem dX3_fillTemplate_115 : decode cX3_fillTemplate 115 = .ok (.iload 4, 2) := by decide +kernel
theorem dX3_fillTemplate_117 : decode cX3_fillTemplate 117 = .ok (.baload, 1) := by decide +kernel
theorem dX3_fillTemplate_118 : decode cX3_fillTemplate 118 = .ok (.ifCond .ne 23, 3) := by decide +kernel
theorem dX3_fillTemplate_121 : decode cX3_fillTemplate 121 = .ok (.aload_n 1, 1) := by decide +kernel
theorem dX3_fillTemplate_122 : decode cX3_fillTemplate 122 = .ok (.aload_n 0, 1) := by decide +kernel
theorem dX3_fillTemplate_123 : decode cX3_fillTemplate 123 = .ok (.getfield 19, 3) := by decide +kernel
theorem dX3_fillTemplate_126 : decode cX3_fillTemplate 126 = .ok (.getfield 41, 3) := by decide +kernel
theorem dX3_fillTemplate_129 : decode cX3_fillTemplate 129 = .ok (.iload 4, 2) := by decide +kernel
theorem dX3_fillTemplate_131 : decode cX3_fillTemplate 131 = .ok (.iload 4, 2) := by decide +kernel
theorem dX3_fillTemplate_133 : decode cX3_fillTemplate 133 = .ok (.iconst 1, 1) := by decide +kernel
theorem dX3_fillTemplate_134 : decode cX3_fillTemplate 134 = .ok (.iadd, 1) := by decide +kernel
theorem dX3_fillTemplate_135 : decode cX3_fillTemplate 135 = .ok (.invokevirtual 47, 3) := by decide +kernel
theorem dX3_fillTemplate_138 : decode cX3_fillTemplate 138 = .ok (.ifCond .eq 7, 3) := by decide +kernel
theorem dX3_fillTemplate_141 : decode cX3_fillTemplate 141 = .ok (.iconst 1, 1) := by decide +kernel
theorem dX3_fillTemplate_142 : decode cX3_fillTemplate 142 = .ok (.goto 4, 3) := by decide +kernel
theorem dX3_fillTemplate_145 : decode cX3_fillTemplate 145 = .ok (.iconst 0, 1) := by decide +kernel
theorem dX3_fillTemplate_146 : decode cX3_fillTemplate 146 = .ok (.istore 6, 2) := by decide +kernel
theorem dX3_fillTemplate_148 : decode cX3_fillTemplate 148 = .ok (.iload 6, 2) := by decide +kernel
theorem dX3_fillTemplate_150 : decode cX3_fillTemplate 150 = .ok (.ifCond .ne 5, 3) := by decide +kernel
theorem dX3_fillTemplate_153 : decode cX3_fillTemplate 153 = .ok (.iconst 0, 1) := by decide +kernel
theorem dX3_fillTemplate_154 : decode cX3_fillTemplate 154 = .ok (.ireturn, 1) := by decide +kernel
theorem dX3_fillTemplate_155 : decode cX3_fillTemplate 155 = .ok (.iinc 4 1, 3) := by decide +kernel
theorem dX3_fillTemplate_158 : decode cX3_fillTemplate 158 = .ok (.goto (-126), 3) := by decide +kernel
theorem dX3_fillTemplate_161 : decode cX3_fillTemplate 161 = .ok (.iconst 1, 1) := by decide +kernel
theorem dX3_fillTemplate_162 : decode cX3_fillTemplate 162 = .ok (.ireturn, 1) := by decide +kernel
theorem dX3_fillLetter_0 : decode cX3_fillLetter 0 = .ok (.aload_n 0, 1) := by decide +kernel
theorem dX3_fillLetter_1 : decode cX3_fillLetter 1 = .ok (.getfield 22, 3) := by decide +kernel
theorem dX3_fillLetter_4 : decode cX3_fillLetter 4 = .ok (.iload_n 2, 1) := by decide +kernel
theorem dX3_fillLetter_5 : decode cX3_fillLetter 5 = .ok (.invokevirtual 77, 3) := by decide +kernel
theorem dX3_fillLetter_8 : decode cX3_fillLetter 8 = .ok (.istore_n 3, 1) := by decide +kernel
theorem dX3_fillLetter_9 : decode cX3_fillLetter 9 = .ok (.aload_n 0, 1) := by decide +kernel
theorem dX3_fillLetter_10 : decode cX3_fillLetter 10 = .ok (.getfield 22, 3) := by decide +kernel
theorem dX3_fillLetter_13 : decode cX3_fillLetter 13 = .ok (.iload_n 2, 1) := by decide +kernel
theorem dX3_fillLetter_14 : decode cX3_fillLetter 14 = .ok (.invokevirtual 81, 3) := by decide +kernel
theorem dX3_fillLetter_17 : decode cX3_fillLetter 17 = .ok (.istore 4, 2) := by decide +kernel
theorem dX3_fillLetter_19 : decode cX3_fillLetter 19 = .ok (.iload_n 3, 1) := by decide +kernel
theorem dX3_fillLetter_20 : decode cX3_fillLetter 20 = .ok (.iconst (-1), 1) := by decide +kernel
theorem dX3_fillLetter_21 : decode cX3_fillLetter 21 = .ok (.if_icmp .eq 36, 3) := by decide +kernel
theorem dX3_fillLetter_24 : decode cX3_fillLetter 24 = .ok (.aload_n 1, 1) := by decide +kernel
theorem dX3_fillLetter_25 : decode cX3_fillLetter 25 = .ok (.aload_n 0, 1) := by decide +kernel
theorem dX3_fillLetter_26 : decode cX3_fillLetter 26 = .ok (.getfield 15, 3) := by decide +kernel
theorem dX3_fillLetter_29 : decode cX3_fillLetter 29 = .ok (.getfield 41, 3) := by decide +kernel
theorem dX3_fillLetter_32 : decode cX3_fillLetter 32 = .ok (.aload_n 0, 1) := by decide +kernel
theorem dX3_fillLetter_33 : decode cX3_fillLetter 33 = .ok (.getfield 15, 3) := by decide +kernel
theorem dX3_fillLetter_36 : decode cX3_fillLetter 36 = .ok (.getfield 44, 3) := by decide +kernel
theorem dX3_fillLetter_39 : decode cX3_fillLetter 39 = .ok (.iload_n 3, 1) := by decide +kernel
theorem dX3_fillLetter_40 : decode cX3_fillLetter 40 = .ok (.iaload, 1) := by decide +kernel
theorem dX3_fillLetter_41 : decode cX3_fillLetter 41 = .ok (.aload_n 0, 1) := by decide +kernel
theorem dX3_fillLetter_42 : decode cX3_fillLetter 42 = .ok (.getfield 15, 3) := by decide +kernel
theorem dX3_fillLetter_45 : decode cX3_fillLetter 45 = .ok (.iload_n 3, 1) := by decide +kernel
theorem dX3_fillLetter_46 : decode cX3_fillLetter 46 = .ok (.iload 4, 2) := by decide +kernel
theorem dX3_fillLetter_48 : decode cX3_fillLetter 48 = .ok (.invokevirtual 84, 3) := by decide +kernel
theorem dX3_fillLetter_51 : decode cX3_fillLetter 51 = .ok (.invokevirtual 47, 3) := by decide +kernel
theorem dX3_fillLetter_54 : decode cX3_fillLetter 54 = .ok (.ifCond .eq 7, 3) := by decide +kernel
theorem dX3_fillLetter_57 : decode cX3_fillLetter 57 = .ok (.iconst 1, 1) := by decide +kernel
theorem dX3_fillLetter_58 : decode cX3_fillLetter 58 = .ok (.goto 4, 3) := by decide +kernel
theorem dX3_fillLetter_61 : decode cX3_fillLetter 61 = .ok (.iconst 0, 1) := by decide +kernel
theorem dX3_fillLetter_62 : decode cX3_fillLetter 62 = .ok (.ireturn, 1) := by decide +kernel
theorem dX3_dropRowsOfNone_0 : decode cX3_dropRowsOfNone 0 = .ok (.iconst 0, 1) := by decide +kernel
theorem dX3_dropRowsOfNone_1 : decode cX3_dropRowsOfNone 1 = .ok (.istore_n 1, 1) := by decide +kernel
theorem dX3_dropRowsOfNone_2 : decode cX3_dropRowsOfNone 2 = .ok (.iload_n 1, 1) := by decide +kernel
theorem dX3_dropRowsOfNone_3 : decode cX3_dropRowsOfNone 3 = .ok (.bipush 80, 2) := by decide +kernel
theorem dX3_dropRowsOfNone_5 : decode cX3_dropRowsOfNone 5 = .ok (.if_icmp .ge 16, 3) := by decide +kernel
theorem dX3_dropRowsOfNone_8 : decode cX3_dropRowsOfNone 8 = .ok (.aload_n 0, 1) := by decide +kernel
theorem dX3_dropRowsOfNone_9 : decode cX3_dropRowsOfNone 9 = .ok (.getfield 9, 3) := by decide +kernel
theorem dX3_dropRowsOfNone_12 : decode cX3_dropRowsOfNone 12 = .ok (.iload_n 1, 1) := by decide +kernel
theorem dX3_dropRowsOfNone_13 : decode cX3_dropRowsOfNone 13 = .ok (.iconst 0, 1) := by decide +kernel
theorem dX3_dropRowsOfNone_14 : decode cX3_dropRowsOfNone 14 = .ok (.bastore, 1) := by decide +kernel
theorem dX3_dropRowsOfNone_15 : decode cX3_dropRowsOfNone 15 = .ok (.iinc 1 1, 3) := by decide +kernel
theorem dX3_dropRowsOfNone_18 : decode cX3_dropRowsOfNone 18 = .ok (.goto (-16), 3) := by decide +kernel
theorem dX3_dropRowsOfNone_21 : decode cX3_dropRowsOfNone 21 = .ok (.iconst 0, 1) := by decide +kernel
theorem dX3_dropRowsOfNone_22 : decode cX3_dropRowsOfNone 22 = .ok (.istore_n 1, 1) := by decide +kernel
theorem dX3_dropRowsOfNone_23 : decode cX3_dropRowsOfNone 23 = .ok (.iload_n 1, 1) := by decide +kernel
theorem dX3_dropRowsOfNone_24 : decode cX3_dropRowsOfNone 24 = .ok (.aload_n 0, 1) := by decide +kernel
theorem dX3_dropRowsOfNone_25 : decode cX3_dropRowsOfNone 25 = .ok (.getfield 19, 3) := by decide +kernel
theorem dX3_dropRowsOfNone_28 : decode cX3_dropRowsOfNone 28 = .ok (.getfield 87, 3) := by decide +kernel
theorem dX3_dropRowsOfNone_31 : decode cX3_dropRowsOfNone 31 = .ok (.if_icmp .ge 46, 3) := by decide +kernel
theorem dX3_dropRowsOfNone_34 : decode cX3_dropRowsOfNone 34 = .ok (.aload_n 0, 1) := by decide +kernel
theorem dX3_dropRowsOfNone_35 : decode cX3_dropRowsOfNone 35 = .ok (.getfield 19, 3) := by decide +kernel
theorem dX3_dropRowsOfNone_38 : decode cX3_dropRowsOfNone 38 = .ok (.getfield 90, 3) := by decide +kernel
theorem dX3_dropRowsOfNone_41 : decode cX3_dropRowsOfNone 41 = .ok (.iload_n 1, 1) := by decide +kernel
theorem dX3_dropRowsOfNone_42 : decode cX3_dropRowsOfNone 42 = .ok (.iaload, 1) := by decide +kernel
theorem dX3_dropRowsOfNone_43 : decode cX3_dropRowsOfNone 43 = .ok (.iconst 2, 1) := by decide +kernel
theorem dX3_dropRowsOfNone_44 : decode cX3_dropRowsOfNone 44 = .ok (.if_icmp .ne 27, 3) := by decide +kernel
theorem dX3_dropRowsOfNone_47 : decode cX3_dropRowsOfNone 47 = .ok (.aload_n 0, 1) := by decide +kernel
theorem dX3_dropRowsOfNone_48 : decode cX3_dropRowsOfNone 48 = .ok (.getfield 22, 3) := by decide +kernel
theorem dX3_dropRowsOfNone_51 : decode cX3_dropRowsOfNone 51 = .ok (.aload_n 0, 1) := by decide +kernel
theorem dX3_dropRowsOfNone_52 : decode cX3_dropRowsOfNone 52 = .ok (.getfield 19, 3) := by decide +kernel
theorem dX3_dropRowsOfNone_55 : decode cX3_dropRowsOfNone 55 = .ok (.getfield 93, 3) := by decide +kernel
theorem dX3_dropRowsOfNone_58 : decode cX3_dropRowsOfNone 58 = .ok (.iload_n 1, 1) := by decide +kernel
theorem dX3_dropRowsOfNone_59 : decode cX3_dropRowsOfNone 59 = .ok (.iaload, 1) := by decide +kernel
theorem dX3_dropRowsOfNone_60 : decode cX3_dropRowsOfNone 60 = .ok (.invokevirtual 81, 3) := by decide +kernel
theorem dX3_dropRowsOfNone_63 : decode cX3_dropRowsOfNone 63 = .ok (.ifCond .ne 8, 3) := by decide +kernel
theorem dX3_dropRowsOfNone_66 : decode cX3_dropRowsOfNone 66 = .ok (.aload_n 0, 1) := by decide +kernel
theorem dX3_dropRowsOfNone_67 : decode cX3_dropRowsOfNone 67 = .ok (.iload_n 1, 1) := by decide +kernel
theorem dX3_dropRowsOfNone_68 : decode cX3_dropRowsOfNone 68 = .ok (.invokevirtual 96, 3) := by decide +kernel
theorem dX3_dropRowsOfNone_71 : decode cX3_dropRowsOfNone 71 = .ok (.iinc 1 1, 3) := by decide +kernel
theorem dX3_dropRowsOfNone_74 : decode cX3_dropRowsOfNone 74 = .ok (.goto (-51), 3) := by decide +kernel
theorem dX3_dropRowsOfNone_77 : decode cX3_dropRowsOfNone 77 = .ok (.return_, 1) := by decide +kernel
theorem dX3_dropRow_0 : decode cX3_dropRow 0 = .ok (.iload_n 1, 1) := by decide +kernel
theorem dX3_dropRow_1 : decode cX3_dropRow 1 = .ok (.iconst 1, 1) := by decide +kernel
theorem dX3_dropRow_2 : decode cX3_dropRow 2 = .ok (.iadd, 1) := by decide +kernel
theorem dX3_dropRow_3 : decode cX3_dropRow 3 = .ok (.istore_n 2, 1) := by decide +kernel
theorem dX3_dropRow_4 : decode cX3_dropRow 4 = .ok (.iload_n 2, 1) := by decide +kernel
theorem dX3_dropRow_5 : decode cX3_dropRow 5 = .ok (.aload_n 0, 1) := by decide +kernel
theorem dX3_dropRow_6 : decode cX3_dropRow 6 = .ok (.getfield 19, 3) := by decide +kernel
theorem dX3_dropRow_9 : decode cX3_dropRow 9 = .ok (.getfield 87, 3) := by decide +kernel
theorem dX3_dropRow_12 : decode cX3_dropRow 12 = .ok (.if_icmp .ge 47, 3) := by decide +kernel
theorem dX3_dropRow_15 : decode cX3_dropRow 15 = .ok (.aload_n 0, 1) := by decide +kernel
theorem dX3_dropRow_16 : decode cX3_dropRow 16 = .ok (.getfield 19, 3) := by decide +kernel
theorem dX3_dropRow_19 : decode cX3_dropRow 19 = .ok (.getfield 100, 3) := by decide +kernel
theorem dX3_dropRow_22 : decode cX3_dropRow 22 = .ok (.iload_n 2, 1) := by decide +kernel
theorem dX3_dropRow_23 : decode cX3_dropRow 23 = .ok (.iaload, 1) := by decide +kernel
theorem dX3_dropRow_24 : decode cX3_dropRow 24 = .ok (.aload_n 0, 1) := by decide +kernel
theorem dX3_dropRow_25 : decode cX3_dropRow 25 = .ok (.getfield 19, 3) := by decide +kernel
theorem dX3_dropRow_28 : decode cX3_dropRow 28 = .ok (.getfield 100, 3) := by decide +kernel
theorem dX3_dropRow_31 : decode cX3_dropRow 31 = .ok (.iload_n 1, 1) := by decide +kernel
theorem dX3_dropRow_32 : decode cX3_dropRow 32 = .ok (.iaload, 1) := by decide +kernel
theorem dX3_dropRow_33 : decode cX3_dropRow 33 = .ok (.if_icmp .ne 26, 3) := by decide +kernel
theorem dX3_dropRow_36 : decode cX3_dropRow 36 = .ok (.aload_n 0, 1) := by decide +kernel
theorem dX3_dropRow_37 : decode cX3_dropRow 37 = .ok (.aload_n 0, 1) := by decide +kernel
theorem dX3_dropRow_38 : decode cX3_dropRow 38 = .ok (.getfield 19, 3) := by decide +kernel
theorem dX3_dropRow_41 : decode cX3_dropRow 41 = .ok (.getfield 44, 3) := by decide +kernel
theorem dX3_dropRow_44 : decode cX3_dropRow 44 = .ok (.iload_n 1, 1) := by decide +kernel
theorem dX3_dropRow_45 : decode cX3_dropRow 45 = .ok (.iaload, 1) := by decide +kernel
theorem dX3_dropRow_46 : decode cX3_dropRow 46 = .ok (.aload_n 0, 1) := by decide +kernel
theorem dX3_dropRow_47 : decode cX3_dropRow 47 = .ok (.getfield 19, 3) := by decide +kernel
theorem dX3_dropRow_50 : decode cX3_dropRow 50 = .ok (.getfield 44, 3) := by decide +kernel
theorem dX3_dropRow_53 : decode cX3_dropRow 53 = .ok (.iload_n 2, 1) := by decide +kernel
theorem dX3_dropRow_54 : decode cX3_dropRow 54 = .ok (.iaload, 1) := by decide +kernel
theorem dX3_dropRow_55 : decode cX3_dropRow 55 = .ok (.invokevirtual 103, 3) := by decide +kernel
theorem dX3_dropRow_58 : decode cX3_dropRow 58 = .ok (.return_, 1) := by decide +kernel
theorem dX3_dropRow_59 : decode cX3_dropRow 59 = .ok (.aload_n 0, 1) := by decide +kernel
theorem dX3_dropRow_60 : decode cX3_dropRow 60 = .ok (.iload_n 1, 1) := by decide +kernel
theorem dX3_dropRow_61 : decode cX3_dropRow 61 = .ok (.invokevirtual 107, 3) := by decide +kernel
theorem dX3_dropRow_64 : decode cX3_dropRow 64 = .ok (.istore_n 3, 1) := by decide +kernel
theorem dX3_dropRow_65 : decode cX3_dropRow 65 = .ok (.aload_n 0, 1) := by decide +kernel
theorem dX3_dropRow_66 : decode cX3_dropRow 66 = .ok (.iload_n 3, 1) := by decide +kernel
theorem dX3_dropRow_67 : decode cX3_dropRow 67 = .ok (.iconst (-1), 1) := by decide +kernel
theorem dX3_dropRow_68 : decode cX3_dropRow 68 = .ok (.if_icmp .ne 15, 3) := by decide +kernel
theorem dX3_dropRow_71 : decode cX3_dropRow 71 = .ok (.aload_n 0, 1) := by decide +kernel
theorem dX3_dropRow_72 : decode cX3_dropRow 72 = .ok (.getfield 19, 3) := by decide +kernel
theorem dX3_dropRow_75 : decode cX3_dropRow 75 = .ok (.getfield 44, 3) := by decide +kernel
theorem dX3_dropRow_78 : decode cX3_dropRow 78 = .ok (.iload_n 1, 1) := by decide +kernel
theorem dX3_dropRow_79 : decode cX3_dropRow 79 = .ok (.iaload, 1) := by decide +kernel
theorem dX3_dropRow_80 : decode cX3_dropRow 80 = .ok (.goto 12, 3) := by decide +kernel
theorem dX3_dropRow_83 : decode cX3_dropRow 83 = .ok (.aload_n 0, 1) := by decide +kernel
theorem dX3_dropRow_84 : decode cX3_dropRow 84 = .ok (.getfield 19, 3) := by decide +kernel
theorem dX3_dropRow_87 : decode cX3_dropRow 87 = .ok (.getfield 61, 3) := by decide +kernel
theorem dX3_dropRow_90 : decode cX3_dropRow 90 = .ok (.iload_n 3, 1) := by decide +kernel
theorem dX3_dropRow_91 : decode cX3_dropRow 91 = .ok (.iaload, 1) := by decide +kernel
theorem dX3_dropRow_92 : decode cX3_dropRow 92 = .ok (.aload_n 0, 1) := by decide +kernel
theorem dX3_dropRow_93 : decode cX3_dropRow 93 = .ok (.getfield 19, 3) := by decide +kernel
theorem dX3_dropRow_96 : decode cX3_dropRow 96 = .ok (.getfield 61, 3) := by decide +kernel
theorem dX3_dropRow_99 : decode cX3_dropRow 99 = .ok (.iload_n 1, 1) := by decide +kernel
theorem dX3_dropRow_100 : decode cX3_dropRow 100 = .ok (.iaload, 1) := by decide +kernel
theorem dX3_dropRow_101 : decode cX3_dropRow 101 = .ok (.invokevirtual 103, 3) := by decide +kernel
theorem dX3_dropRow_104 : decode cX3_dropRow 104 = .ok (.return_, 1) := by decide +kernel
theorem dX3_pieceAhead_0 : decode cX3_pieceAhead 0 = .ok (.iload_n 1, 1) := by decide +kernel
theorem dX3_pieceAhead_1 : decode cX3_pieceAhead 1 = .ok (.iconst 1, 1) := by decide +kernel
theorem dX3_pieceAhead_2 : decode cX3_pieceAhead 2 = .ok (.isub, 1) := by decide +kernel
theorem dX3_pieceAhead_3 : decode cX3_pieceAhead 3 = .ok (.istore_n 2, 1) := by decide +kernel
theorem dX3_pieceAhead_4 : decode cX3_pieceAhead 4 = .ok (.iload_n 2, 1) := by decide +kernel
theorem dX3_pieceAhead_5 : decode cX3_pieceAhead 5 = .ok (.ifCond .lt 49, 3) := by decide +kernel
theorem dX3_pieceAhead_8 : decode cX3_pieceAhead 8 = .ok (.aload_n 0, 1) := by decide +kernel
theorem dX3_pieceAhead_9 : decode cX3_pieceAhead 9 = .ok (.getfield 19, 3) := by decide +kernel
theorem dX3_pieceAhead_12 : decode cX3_pieceAhead 12 = .ok (.getfield 100, 3) := by decide +kernel
theorem dX3_pieceAhead_15 : decode cX3_pieceAhead 15 = .ok (.iload_n 2, 1) := by decide +kernel
theorem dX3_pieceAhead_16 : decode cX3_pieceAhead 16 = .ok (.iaload, 1) := by decide +kernel
theorem dX3_pieceAhead_17 : decode cX3_pieceAhead 17 = .ok (.aload_n 0, 1) := by decide +kernel
theorem dX3_pieceAhead_18 : decode cX3_pieceAhead 18 = .ok (.getfield 19, 3) := by decide +kernel
theorem dX3_pieceAhead_21 : decode cX3_pieceAhead 21 = .ok (.getfield 100, 3) := by decide +kernel
theorem dX3_pieceAhead_24 : decode cX3_pieceAhead 24 = .ok (.iload_n 1, 1) := by decide +kernel
theorem dX3_pieceAhead_25 : decode cX3_pieceAhead 25 = .ok (.iaload, 1) := by decide +kernel
theorem dX3_pieceAhead_26 : decode cX3_pieceAhead 26 = .ok (.if_icmp .ne 22, 3) := by decide +kernel
theorem dX3_pieceAhead_29 : decode cX3_pieceAhead 29 = .ok (.aload_n 0, 1) := by decide +kernel
theorem dX3_pieceAhead_30 : decode cX3_pieceAhead 30 = .ok (.getfield 9, 3) := by decide +kernel
theorem dX3_pieceAhead_33 : decode cX3_pieceAhead 33 = .ok (.aload_n 0, 1) := by decide +kernel
theorem dX3_pieceAhead_34 : decode cX3_pieceAhead 34 = .ok (.getfield 19, 3) := by decide +kernel
theorem dX3_pieceAhead_37 : decode cX3_pieceAhead 37 = .ok (.getfield 44, 3) := by decide +kernel
theorem dX3_pieceAhead_40 : decode cX3_pieceAhead 40 = .ok (.iload_n 2, 1) := by decide +kernel
theorem dX3_pieceAhead_41 : decode cX3_pieceAhead 41 = .ok (.iaload, 1) := by decide +kernel
theorem dX3_pieceAhead_42 : decode cX3_pieceAhead 42 = .ok (.baload, 1) := by decide +kernel
theorem dX3_pieceAhead_43 : decode cX3_pieceAhead 43 = .ok (.ifCond .ne 5, 3) := by decide +kernel
theorem dX3_pieceAhead_46 : decode cX3_pieceAhead 46 = .ok (.iload_n 2, 1) := by decide +kernel
theorem dX3_pieceAhead_47 : decode cX3_pieceAhead 47 = .ok (.ireturn, 1) := by decide +kernel
theorem dX3_pieceAhead_48 : decode cX3_pieceAhead 48 = .ok (.iinc 2 (-1), 3) := by decide +kernel
theorem dX3_pieceAhead_51 : decode cX3_pieceAhead 51 = .ok (.goto (-47), 3) := by decide +kernel
theorem dX3_pieceAhead_54 : decode cX3_pieceAhead 54 = .ok (.iconst (-1), 1) := by decide +kernel
theorem dX3_pieceAhead_55 : decode cX3_pieceAhead 55 = .ok (.ireturn, 1) := by decide +kernel
theorem dX3_dropBytes_0 : decode cX3_dropBytes 0 = .ok (.iload_n 1, 1) := by decide +kernel
theorem dX3_dropBytes_1 : decode cX3_dropBytes 1 = .ok (.istore_n 3, 1) := by decide +kernel
theorem dX3_dropBytes_2 : decode cX3_dropBytes 2 = .ok (.iload_n 3, 1) := by decide +kernel
theorem dX3_dropBytes_3 : decode cX3_dropBytes 3 = .ok (.iload_n 2, 1) := by decide +kernel
theorem dX3_dropBytes_4 : decode cX3_dropBytes 4 = .ok (.if_icmp .ge 22, 3) := by decide +kernel
theorem dX3_dropBytes_7 : decode cX3_dropBytes 7 = .ok (.iload_n 3, 1) := by decide +kernel
theorem dX3_dropBytes_8 : decode cX3_dropBytes 8 = .ok (.bipush 80, 2) := by decide +kernel
theorem dX3_dropBytes_10 : decode cX3_dropBytes 10 = .ok (.if_icmp .ge 16, 3) := by decide +kernel
theorem dX3_dropBytes_13 : decode cX3_dropBytes 13 = .ok (.aload_n 0, 1) := by decide +kernel
theorem dX3_dropBytes_14 : decode cX3_dropBytes 14 = .ok (.getfield 9, 3) := by decide +kernel
theorem dX3_dropBytes_17 : decode cX3_dropBytes 17 = .ok (.iload_n 3, 1) := by decide +kernel
theorem dX3_dropBytes_18 : decode cX3_dropBytes 18 = .ok (.iconst 1, 1) := by decide +kernel
theorem dX3_dropBytes_19 : decode cX3_dropBytes 19 = .ok (.bastore, 1) := by decide +kernel
theorem dX3_dropBytes_20 : decode cX3_dropBytes 20 = .ok (.iinc 3 1, 3) := by decide +kernel
theorem dX3_dropBytes_23 : decode cX3_dropBytes 23 = .ok (.goto (-21), 3) := by decide +kernel
theorem dX3_dropBytes_26 : decode cX3_dropBytes 26 = .ok (.return_, 1) := by decide +kernel
theorem dX4_init_0 : decode cX4_init 0 = .ok (.aload_n 0, 1) := by decide +kernel
theorem dX4_init_1 : decode cX4_init 1 = .ok (.invokespecial 3, 3) := by decide +kernel
theorem dX4_init_4 : decode cX4_init 4 = .ok (.return_, 1) := by decide +kernel
theorem dX4_readTree_0 : decode cX4_readTree 0 = .ok (.aload_n 0, 1) := by decide +kernel
theorem dX4_readTree_1 : decode cX4_readTree 1 = .ok (.aload_n 1, 1) := by decide +kernel
theorem dX4_readTree_2 : decode cX4_readTree 2 = .ok (.iload_n 2, 1) := by decide +kernel
theorem dX4_readTree_3 : decode cX4_readTree 3 = .ok (.invokevirtual 9, 3) := by decide +kernel
theorem dX4_readTree_6 : decode cX4_readTree 6 = .ok (.iconst 0, 1) := by decide +kernel
theorem dX4_readTree_7 : decode cX4_readTree 7 = .ok (.istore_n 3, 1) := by decide +kernel
theorem dX4_readTree_8 : decode cX4_readTree 8 = .ok (.iload_n 3, 1) := by decide +kernel
theorem dX4_readTree_9 : decode cX4_readTree 9 = .ok (.aload_n 1, 1) := by decide +kernel
theorem dX4_readTree_10 : decode cX4_readTree 10 = .ok (.getfield 15, 3) := by decide +kernel
theorem dX4_readTree_13 : decode cX4_readTree 13 = .ok (.if_icmp .gt 72, 3) := by decide +kernel
theorem dX4_readTree_16 : decode cX4_readTree 16 = .ok (.aload_n 0, 1) := by decide +kernel
theorem dX4_readTree_17 : decode cX4_readTree 17 = .ok (.aload_n 1, 1) := by decide +kernel
theorem dX4_readTree_18 : decode cX4_readTree 18 = .ok (.invokevirtual 21, 3) := by decide +kernel
theorem dX4_readTree_21 : decode cX4_readTree 21 = .ok (.aload_n 0, 1) := by decide +kernel
theorem dX4_readTree_22 : decode cX4_readTree 22 = .ok (.getfield 25, 3) := by decide +kernel
theorem dX4_readTree_25 : decode cX4_readTree 25 = .ok (.aload_n 1, 1) := by decide +kernel
theorem dX4_readTree_26 : decode cX4_readTree 26 = .ok (.getfield 15, 3) := by decide +kernel
theorem dX4_readTree_29 : decode cX4_readTree 29 = .ok (.if_icmp .lt 28, 3) := by decide +kernel
theorem dX4_readTree_32 : decode cX4_readTree 32 = .ok (.aload_n 0, 1) := by decide +kernel
theorem dX4_readTree_33 : decode cX4_readTree 33 = .ok (.getfield 28, 3) := by decide +kernel
theorem dX4_readTree_36 : decode cX4_readTree 36 = .ok (.iconst (-1), 1) := by decide +kernel
theorem dX4_readTree_37 : decode cX4_readTree 37 = .ok (.if_icmp .ne 15, 3) := by decide +kernel
theorem dX4_readTree_40 : decode cX4_readTree 40 = .ok (.aload_n 0, 1) := by decide +kernel
theorem dX4_readTree_41 : decode cX4_readTree 41 = .ok (.getfield 31, 3) := by decide +kernel
theorem dX4_readTree_44 : decode cX4_readTree 44 = .ok (.iconst 3, 1) := by decide +kernel
theorem dX4_readTree_45 : decode cX4_readTree 45 = .ok (.if_icmp .lt 7, 3) := by decide +kernel
theorem dX4_readTree_48 : decode cX4_readTree 48 = .ok (.iconst (-1), 1) := by decide +kernel
theorem dX4_readTree_49 : decode cX4_readTree 49 = .ok (.goto 7, 3) := by decide +kernel
theorem dX4_readTree_52 : decode cX4_readTree 52 = .ok (.aload_n 1, 1) := by decide +kernel
theorem dX4_readTree_53 : decode cX4_readTree 53 = .ok (.getfield 15, 3) := by decide +kernel
theorem dX4_readTree_56 : decode cX4_readTree 56 = .ok (.ireturn, 1) := by decide +kernel
theorem dX4_readTree_57 : decode cX4_readTree 57 = .ok (.aload_n 0, 1) := by decide +kernel
theorem dX4_readTree_58 : decode cX4_readTree 58 = .ok (.aload_n 1, 1) := by decide +kernel
theorem dX4_readTree_59 : decode cX4_readTree 59 = .ok (.aload_n 1, 1) := by decide +kernel
theorem dX4_readTree_60 : decode cX4_readTree 60 = .ok (.getfield 34, 3) := by decide +kernel
theorem dX4_readTree_63 : decode cX4_readTree 63 = .ok (.aload_n 0, 1) := by decide +kernel
theorem dX4_readTree_64 : decode cX4_readTree 64 = .ok (.getfield 25, 3) := by decide +kernel
theorem dX4_readTree_67 : decode cX4_readTree 67 = .ok (.iaload, 1) := by decide +kernel
theorem dX4_readTree_68 : decode cX4_readTree 68 = .ok (.invokevirtual 38, 3) := by decide +kernel
theorem dX4_readTree_71 : decode cX4_readTree 71 = .ok (.ifCond .ne 8, 3) := by decide +kernel
theorem dX4_readTree_74 : decode cX4_readTree 74 = .ok (.aload_n 0, 1) := by decide +kernel
theorem dX4_readTree_75 : decode cX4_readTree 75 = .ok (.getfield 25, 3) := by decide +kernel
theorem dX4_readTree_78 : decode cX4_readTree 78 = .ok (.ireturn, 1) := by decide +kernel
theorem dX4_readTree_79 : decode cX4_readTree 79 = .ok (.iinc 3 1, 3) := by decide +kernel
theorem dX4_readTree_82 : decode cX4_readTree 82 = .ok (.goto (-74), 3) := by decide +kernel
theorem dX4_readTree_85 : decode cX4_readTree 85 = .ok (.aload_n 0, 1) := by decide +kernel
theorem dX4_readTree_86 : decode cX4_readTree 86 = .ok (.getfield 25, 3) := by decide +kernel
theorem dX4_readTree_89 : decode cX4_readTree 89 = .ok (.ireturn, 1) := by decide +kernel
theorem dX4_start_0 : decode cX4_start 0 = .ok (.aload_n 0, 1) := by decide +kernel
theorem dX4_start_1 : decode cX4_start 1 = .ok (.iload_n 2, 1) := by decide +kernel
theorem dX4_start_2 : decode cX4_start 2 = .ok (.putfield 42, 3) := by decide +kernel
theorem dX4_start_5 : decode cX4_start 5 = .ok (.aload_n 0, 1) := by decide +kernel
theorem dX4_start_6 : decode cX4_start 6 = .ok (.iconst 0, 1) := by decide +kernel
theorem dX4_start_7 : decode cX4_start 7 = .ok (.putfield 25, 3) := by decide +kernel
theorem dX4_start_10 : decode cX4_start 10 = .ok (.aload_n 0, 1) := by decide +kernel
theorem dX4_start_11 : decode cX4_start 11 = .ok (.iconst 0, 1) := by decide +kernel
theorem dX4_start_12 : decode cX4_start 12 = .ok (.putfield 31, 3) := by decide +kernel
theorem dX4_start_15 : decode cX4_start 15 = .ok (.aload_n 0, 1) := by decide +kernel
theorem dX4_start_16 : decode cX4_start 16 = .ok (.iconst (-1), 1) := by decide +kernel
theorem dX4_start_17 : decode cX4_start 17 = .ok (.putfield 28, 3) := by decide +kernel
theorem dX4_start_20 : decode cX4_start 20 = .ok (.aload_n 0, 1) := by decide +kernel
theorem dX4_start_21 : decode cX4_start 21 = .ok (.iconst 0, 1) := by decide +kernel
theorem dX4_start_22 : decode cX4_start 22 = .ok (.putfield 45, 3) := by decide +kernel
theorem dX4_start_25 : decode cX4_start 25 = .ok (.aload_n 0, 1) := by decide +kernel
theorem dX4_start_26 : decode cX4_start 26 = .ok (.iconst 0, 1) := by decide +kernel
theorem dX4_start_27 : decode cX4_start 27 = .ok (.putfield 48, 3) := by decide +kernel
theorem dX4_start_30 : decode cX4_start 30 = .ok (.aload_n 0, 1) := by decide +kernel
theorem dX4_start_31 : decode cX4_start 31 = .ok (.iconst (-1), 1) := by decide +kernel
theorem dX4_start_32 : decode cX4_start 32 = .ok (.putfield 51, 3) := by decide +kernel
theorem dX4_start_35 : decode cX4_start 35 = .ok (.aload_n 0, 1) := by decide +kernel
theorem dX4_start_36 : decode cX4_start 36 = .ok (.iconst 0, 1) := by decide +kernel
theorem dX4_start_37 : decode cX4_start 37 = .ok (.putfield 54, 3) := by decide +kernel
theorem dX4_start_40 : decode cX4_start 40 = .ok (.aload_n 1, 1) := by decide +kernel
theorem dX4_start_41 : decode cX4_start 41 = .ok (.iconst 0, 1) := by decide +kernel
theorem dX4_start_42 : decode cX4_start 42 = .ok (.putfield 58, 3) := by decide +kernel
theorem dX4_start_45 : decode cX4_start 45 = .ok (.iconst 0, 1) := by decide +kernel
theorem dX4_start_46 : decode cX4_start 46 = .ok (.istore_n 3, 1) := by decide +kernel
theorem dX4_start_47 : decode cX4_start 47 = .ok (.iload_n 3, 1) := by decide +kernel
theorem dX4_start_48 : decode cX4_start 48 = .ok (.bipush 26, 2) := by decide +kernel
theorem dX4_start_50 : decode cX4_start 50 = .ok (.if_icmp .ge 16, 3) := by decide +kernel
theorem dX4_start_53 : decode cX4_start 53 = .ok (.aload_n 1, 1) := by decide +kernel
theorem dX4_start_54 : decode cX4_start 54 = .ok (.getfield 61, 3) := by decide +kernel
theorem dX4_start_57 : decode cX4_start 57 = .ok (.iload_n 3, 1) := by decide +kernel
theorem dX4_start_58 : decode cX4_start 58 = .ok (.iconst (-1), 1) := by decide +kernel
theorem dX4_start_59 : decode cX4_start 59 = .ok (.iastore, 1) := by decide +kernel
theorem dX4_start_60 : decode cX4_start 60 = .ok (.iinc 3 1, 3) := by decide +kernel
theorem dX4_start_63 : decode cX4_start 63 = .ok (.goto (-16), 3) := by decide +kernel
theorem dX4_start_66 : decode cX4_start 66 = .ok (.return_, 1) := by decide +kernel
theorem dX4_skipBlanks_0 : decode cX4_skipBlanks 0 = .ok (.aload_n 0, 1) := by decide +kernel
theorem dX4_skipBlanks_1 : decode cX4_skipBlanks 1 = .ok (.getfield 25, 3) := by decide +kernel
theorem dX4_skipBlanks_4 : decode cX4_skipBlanks 4 = .ok (.aload_n 1, 1) := by decide +kernel
theorem dX4_skipBlanks_5 : decode cX4_skipBlanks 5 = .ok (.getfield 15, 3) := by decide +kernel
theorem dX4_skipBlanks_8 : decode cX4_skipBlanks 8 = .ok (.if_icmp .ge 31, 3) := by decide +kernel
theorem dX4_skipBlanks_11 : decode cX4_skipBlanks 11 = .ok (.aload_n 1, 1) := by decide +kernel
theorem dX4_skipBlanks_12 : decode cX4_skipBlanks 12 = .ok (.getfield 34, 3) := by decide +kernel
theorem dX4_skipBlanks_15 : decode cX4_skipBlanks 15 = .ok (.aload_n 0, 1) := by decide +kernel
theorem dX4_skipBlanks_16 : decode cX4_skipBlanks 16 = .ok (.getfield 25, 3) := by decide +kernel
theorem dX4_skipBlanks_19 : decode cX4_skipBlanks 19 = .ok (.iaload, 1) := by decide +kernel
theorem dX4_skipBlanks_20 : decode cX4_skipBlanks 20 = .ok (.invokestatic 64, 3) := by decide +kernel
theorem dX4_skipBlanks_23 : decode cX4_skipBlanks 23 = .ok (.ifCond .eq 16, 3) := by decide +kernel
theorem dX4_skipBlanks_26 : decode cX4_skipBlanks 26 = .ok (.aload_n 0, 1) := by decide +kernel
theorem dX4_skipBlanks_27 : decode cX4_skipBlanks 27 = .ok (.dup, 1) := by decide +kernel
theorem dX4_skipBlanks_28 : decode cX4_skipBlanks 28 = .ok (.getfield 25, 3) := by decide +kernel
theorem dX4_skipBlanks_31 : decode cX4_skipBlanks 31 = .ok (.iconst 1, 1) := by decide +kernel
theorem dX4_skipBlanks_32 : decode cX4_skipBlanks 32 = .ok (.iadd, 1) := by decide +kernel
theorem dX4_skipBlanks_33 : decode cX4_skipBlanks 33 = .ok (.putfield 25, 3) := by decide +kernel
theorem dX4_skipBlanks_36 : decode cX4_skipBlanks 36 = .ok (.goto (-36), 3) := by decide +kernel
theorem dX4_skipBlanks_39 : decode cX4_skipBlanks 39 = .ok (.return_, 1) := by decide +kernel
theorem dX4_readToken_0 : decode cX4_readToken 0 = .ok (.aload_n 0, 1) := by decide +kernel
theorem dX4_readToken_1 : decode cX4_readToken 1 = .ok (.getfield 31, 3) := by decide +kernel
theorem dX4_readToken_4 : decode cX4_readToken 4 = .ok (.tableswitch 101 0 3 #[32, 39, 60, 80], 32) := by decide +kernel
theorem dX4_readToken_36 : decode cX4_readToken 36 = .ok (.aload_n 0, 1) := by decide +kernel
theorem dX4_readToken_37 : decode cX4_readToken 37 = .ok (.aload_n 1, 1) := by decide +kernel
theorem dX4_readToken_38 : decode cX4_readToken 38 = .ok (.iload_n 2, 1) := by decide +kernel
theorem dX4_readToken_39 : decode cX4_readToken 39 = .ok (.invokevirtual 68, 3) := by decide +kernel
theorem dX4_readToken_42 : decode cX4_readToken 42 = .ok (.ireturn, 1) := by decide +kernel
theorem dX4_readToken_43 : decode cX4_readToken 43 = .ok (.iload_n 2, 1) := by decide +kernel
theorem dX4_readToken_44 : decode cX4_readToken 44 = .ok (.bipush 41, 2) := by decide +kernel
theorem dX4_readToken_46 : decode cX4_readToken 46 = .ok (.if_icmp .ne 11, 3) := by decide +kernel
theorem dX4_readToken_49 : decode cX4_readToken 49 = .ok (.aload_n 0, 1) := by decide +kernel
theorem dX4_readToken_50 : decode cX4_readToken 50 = .ok (.aload_n 1, 1) := by decide +kernel
theorem dX4_readToken_51 : decode cX4_readToken 51 = .ok (.invokevirtual 71, 3) := by decide +kernel
theorem dX4_readToken_54 : decode cX4_readToken 54 = .ok (.goto 9, 3) := by decide +kernel
theorem dX4_readToken_57 : decode cX4_readToken 57 = .ok (.aload_n 0, 1) := by decide +kernel
theorem dX4_readToken_58 : decode cX4_readToken 58 = .ok (.aload_n 1, 1) := by decide +kernel
theorem dX4_readToken_59 : decode cX4_readToken 59 = .ok (.iload_n 2, 1) := by decide +kernel
theorem dX4_readToken_60 : decode cX4_readToken 60 = .ok (.invokevirtual 68, 3) := by decide +kernel
theorem dX4_readToken_63 : decode cX4_readToken 63 = .ok (.ireturn, 1) := by decide +kernel
theorem dX4_readToken_64 : decode cX4_readToken 64 = .ok (.iload_n 2, 1) := by decide +kernel
theorem dX4_readToken_65 : decode cX4_readToken 65 = .ok (.bipush 40, 2) := by decide +kernel
theorem dX4_readToken_67 : decode cX4_readToken 67 = .ok (.if_icmp .ne 15, 3) := by decide +kernel
theorem dX4_readToken_70 : decode cX4_readToken 70 = .ok (.aload_n 0, 1) := by decide +kernel
theorem dX4_readToken_71 : decode cX4_readToken 71 = .ok (.aload_n 1, 1) := by decide +kernel
theorem dX4_readToken_72 : decode cX4_readToken 72 = .ok (.invokevirtual 75, 3) := by decide +kernel
theorem dX4_readToken_75 : decode cX4_readToken 75 = .ok (.ifCond .eq 7, 3) := by decide +kernel
theorem dX4_readToken_78 : decode cX4_readToken 78 = .ok (.iconst 1, 1) := by decide +kernel
theorem dX4_readToken_79 : decode cX4_readToken 79 = .ok (.goto 4, 3) := by decide +kernel
theorem dX4_readToken_82 : decode cX4_readToken 82 = .ok (.iconst 0, 1) := by decide +kernel
theorem dX4_readToken_83 : decode cX4_readToken 83 = .ok (.ireturn, 1) := by decide +kernel
theorem dX4_readToken_84 : decode cX4_readToken 84 = .ok (.iload_n 2, 1) := by decide +kernel
theorem dX4_readToken_85 : decode cX4_readToken 85 = .ok (.bipush 40, 2) := by decide +kernel
theorem dX4_readToken_87 : decode cX4_readToken 87 = .ok (.if_icmp .ne 11, 3) := by decide +kernel
theorem dX4_readToken_90 : decode cX4_readToken 90 = .ok (.aload_n 0, 1) := by decide +kernel
theorem dX4_readToken_91 : decode cX4_readToken 91 = .ok (.aload_n 1, 1) := by decide +kernel
theorem dX4_readToken_92 : decode cX4_readToken 92 = .ok (.invokevirtual 75, 3) := by decide +kernel
theorem dX4_readToken_95 : decode cX4_readToken 95 = .ok (.goto 9, 3) := by decide +kernel
theorem dX4_readToken_98 : decode cX4_readToken 98 = .ok (.aload_n 0, 1) := by decide +kernel
theorem dX4_readToken_99 : decode cX4_readToken 99 = .ok (.aload_n 1, 1) := by decide +kernel
theorem dX4_readToken_100 : decode cX4_readToken 100 = .ok (.iload_n 2, 1) := by decide +kernel
theorem dX4_readToken_101 : decode cX4_readToken 101 = .ok (.invokevirtual 78, 3) := by decide +kernel
theorem dX4_readToken_104 : decode cX4_readToken 104 = .ok (.ireturn, 1) := by decide +kernel
theorem dX4_readToken_105 : decode cX4_readToken 105 = .ok (.aload_n 0, 1) := by decide +kernel
theorem dX4_readToken_106 : decode cX4_readToken 106 = .ok (.aload_n 1, 1) := by decide +kernel
theorem dX4_readToken_107 : decode cX4_readToken 107 = .ok (.iload_n 2, 1) := by decide +kernel
theorem dX4_readToken_108 : decode cX4_readToken 108 = .ok (.invokevirtual 78, 3) := by decide +kernel
theorem dX4_readToken_111 : decode cX4_readToken 111 = .ok (.ireturn, 1) := by decide +kernel
theorem dX4_readPiece_0 : decode cX4_readPiece 0 = .ok (.iload_n 2, 1) := by decide +kernel
theorem dX4_readPiece_1 : decode cX4_readPiece 1 = .ok (.invokestatic 81, 3) := by decide +kernel
theorem dX4_readPiece_4 : decode cX4_readPiece 4 = .ok (.ifCond .eq 9, 3) := by decide +kernel
theorem dX4_readPiece_7 : decode cX4_readPiece 7 = .ok (.aload_n 0, 1) := by decide +kernel
theorem dX4_readPiece_8 : decode cX4_readPiece 8 = .ok (.aload_n 1, 1) := by decide +kernel
theorem dX4_readPiece_9 : decode cX4_readPiece 9 = .ok (.invokevirtual 84, 3) := by decide +kernel
theorem dX4_readPiece_12 : decode cX4_readPiece 12 = .ok (.ireturn, 1) := by decide +kernel
theorem dX4_readPiece_13 : decode cX4_readPiece 13 = .ok (.iload_n 2, 1) := by decide +kernel
theorem dX4_readPiece_14 : decode cX4_readPiece 14 = .ok (.lookupswitch 109 #[(42, 56), (63, 34), (64, 79)], 34) := by decide +kernel
theorem dX4_readPiece_48 : decode cX4_readPiece 48 = .ok (.aload_n 0, 1) := by decide +kernel
theorem dX4_readPiece_49 : decode cX4_readPiece 49 = .ok (.getfield 42, 3) := by decide +kernel
theorem dX4_readPiece_52 : decode cX4_readPiece 52 = .ok (.ifCond .eq 16, 3) := by decide +kernel
theorem dX4_readPiece_55 : decode cX4_readPiece 55 = .ok (.aload_n 0, 1) := by decide +kernel
theorem dX4_readPiece_56 : decode cX4_readPiece 56 = .ok (.aload_n 1, 1) := by decide +kernel
theorem dX4_readPiece_57 : decode cX4_readPiece 57 = .ok (.iconst 1, 1) := by decide +kernel
theorem dX4_readPiece_58 : decode cX4_readPiece 58 = .ok (.invokevirtual 87, 3) := by decide +kernel
theorem dX4_readPiece_61 : decode cX4_readPiece 61 = .ok (.ifCond .eq 7, 3) := by decide +kernel
theorem dX4_readPiece_64 : decode cX4_readPiece 64 = .ok (.iconst 1, 1) := by decide +kernel
theorem dX4_readPiece_65 : decode cX4_readPiece 65 = .ok (.goto 4, 3) := by decide +kernel
theorem dX4_readPiece_68 : decode cX4_readPiece 68 = .ok (.iconst 0, 1) := by decide +kernel
theorem dX4_readPiece_69 : decode cX4_readPiece 69 = .ok (.ireturn, 1) := by decide +kernel
theorem dX4_readPiece_70 : decode cX4_readPiece 70 = .ok (.aload_n 0, 1) := by decide +kernel
theorem dX4_readPiece_71 : decode cX4_readPiece 71 = .ok (.aload_n 1, 1) := by decide +kernel
theorem dX4_readPiece_72 : decode cX4_readPiece 72 = .ok (.invokevirtual 90, 3) := by decide +kernel
theorem dX4_readPiece_75 : decode cX4_readPiece 75 = .ok (.ifCond .eq 16, 3) := by decide +kernel
theorem dX4_readPiece_78 : decode cX4_readPiece 78 = .ok (.aload_n 0, 1) := by decide +kernel
theorem dX4_readPiece_79 : decode cX4_readPiece 79 = .ok (.aload_n 1, 1) := by decide +kernel
theorem dX4_readPiece_80 : decode cX4_readPiece 80 = .ok (.iconst 2, 1) := by decide +kernel
theorem dX4_readPiece_81 : decode cX4_readPiece 81 = .ok (.invokevirtual 87, 3) := by decide +kernel
theorem dX4_readPiece_84 : decode cX4_readPiece 84 = .ok (.ifCond .eq 7, 3) := by decide +kernel
theorem dX4_readPiece_87 : decode cX4_readPiece 87 = .ok (.iconst 1, 1) := by decide +kernel
theorem dX4_readPiece_88 : decode cX4_readPiece 88 = .ok (.goto 4, 3) := by decide +kernel
theorem dX4_readPiece_91 : decode cX4_readPiece 91 = .ok (.iconst 0, 1) := by decide +kernel
theorem dX4_readPiece_92 : decode cX4_readPiece 92 = .ok (.ireturn, 1) := by decide +kernel
theorem dX4_readPiece_93 : decode cX4_readPiece 93 = .ok (.aload_n 0, 1) := by decide +kernel
theorem dX4_readPiece_94 : decode cX4_readPiece 94 = .ok (.getfield 42, 3) := by decide +kernel
theorem dX4_readPiece_97 : decode cX4_readPiece 97 = .ok (.iconst 1, 1) := by decide +kernel
theorem dX4_readPiece_98 : decode cX4_readPiece 98 = .ok (.if_icmp .ne 23, 3) := by decide +kernel
theorem dX4_readPiece_101 : decode cX4_readPiece 101 = .ok (.aload_n 0, 1) := by decide +kernel
theorem dX4_readPiece_102 : decode cX4_readPiece 102 = .ok (.getfield 51, 3) := by decide +kernel
theorem dX4_readPiece_105 : decode cX4_readPiece 105 = .ok (.iconst (-1), 1) := by decide +kernel
theorem dX4_readPiece_106 : decode cX4_readPiece 106 = .ok (.if_icmp .ne 15, 3) := by decide +kernel
theorem dX4_readPiece_109 : decode cX4_readPiece 109 = .ok (.aload_n 0, 1) := by decide +kernel
theorem dX4_readPiece_110 : decode cX4_readPiece 110 = .ok (.aload_n 1, 1) := by decide +kernel
theorem dX4_readPiece_111 : decode cX4_readPiece 111 = .ok (.invokevirtual 93, 3) := by decide +kernel
theorem dX4_readPiece_114 : decode cX4_readPiece 114 = .ok (.ifCond .eq 7, 3) := by decide +kernel
theorem dX4_readPiece_117 : decode cX4_readPiece 117 = .ok (.iconst 1, 1) := by decide +kernel
theorem dX4_readPiece_118 : decode cX4_readPiece 118 = .ok (.goto 4, 3) := by decide +kernel
theorem dX4_readPiece_121 : decode cX4_readPiece 121 = .ok (.iconst 0, 1) := by decide +kernel
theorem dX4_readPiece_122 : decode cX4_readPiece 122 = .ok (.ireturn, 1) := by decide +kernel
theorem dX4_readPiece_123 : decode cX4_readPiece 123 = .ok (.iconst 0, 1) := by decide +kernel
theorem dX4_readPiece_124 : decode cX4_readPiece 124 = .ok (.ireturn, 1) := by decide +kernel
theorem dX4_rowMayStand_0 : decode cX4_rowMayStand 0 = .ok (.aload_n 0, 1) := by decide +kernel
theorem dX4_rowMayStand_1 : decode cX4_rowMayStand 1 = .ok (.getfield 42, 3) := by decide +kernel
theorem dX4_rowMayStand_4 : decode cX4_rowMayStand 4 = .ok (.ifCond .eq 11, 3) := by decide +kernel
theorem dX4_rowMayStand_7 : decode cX4_rowMayStand 7 = .ok (.aload_n 0, 1) := by decide +kernel
theorem dX4_rowMayStand_8 : decode cX4_rowMayStand 8 = .ok (.aload_n 1, 1) := by decide +kernel
theorem dX4_rowMayStand_9 : decode cX4_rowMayStand 9 = .ok (.invokevirtual 96, 3) := by decide +kernel
theorem dX4_rowMayStand_12 : decode cX4_rowMayStand 12 = .ok (.ifCond .ne 5, 3) := by decide +kernel
theorem dX4_rowMayStand_15 : decode cX4_rowMayStand 15 = .ok (.iconst 0, 1) := by decide +kernel
theorem dX4_rowMayStand_16 : decode cX4_rowMayStand 16 = .ok (.ireturn, 1) := by decide +kernel
theorem dX4_rowMayStand_17 : decode cX4_rowMayStand 17 = .ok (.aload_n 0, 1) := by decide +kernel
theorem dX4_rowMayStand_18 : decode cX4_rowMayStand 18 = .ok (.getfield 42, 3) := by decide +kernel
theorem dX4_rowMayStand_21 : decode cX4_rowMayStand 21 = .ok (.iconst 2, 1) := by decide +kernel
theorem dX4_rowMayStand_22 : decode cX4_rowMayStand 22 = .ok (.if_icmp .eq 18, 3) := by decide +kernel
theorem dX4_rowMayStand_25 : decode cX4_rowMayStand 25 = .ok (.aload_n 0, 1) := by decide +kernel
theorem dX4_rowMayStand_26 : decode cX4_rowMayStand 26 = .ok (.getfield 48, 3) := by decide +kernel
theorem dX4_rowMayStand_29 : decode cX4_rowMayStand 29 = .ok (.iconst 2, 1) := by decide +kernel
theorem dX4_rowMayStand_30 : decode cX4_rowMayStand 30 = .ok (.if_icmp .ge 14, 3) := by decide +kernel
theorem dX4_rowMayStand_33 : decode cX4_rowMayStand 33 = .ok (.aload_n 0, 1) := by decide +kernel
theorem dX4_rowMayStand_34 : decode cX4_rowMayStand 34 = .ok (.getfield 54, 3) := by decide +kernel
theorem dX4_rowMayStand_37 : decode cX4_rowMayStand 37 = .ok (.ifCond .ne 7, 3) := by decide +kernel
theorem dX4_rowMayStand_40 : decode cX4_rowMayStand 40 = .ok (.iconst 1, 1) := by decide +kernel
theorem dX4_rowMayStand_41 : decode cX4_rowMayStand 41 = .ok (.goto 4, 3) := by decide +kernel
theorem dX4_rowMayStand_44 : decode cX4_rowMayStand 44 = .ok (.iconst 0, 1) := by decide +kernel
theorem dX4_rowMayStand_45 : decode cX4_rowMayStand 45 = .ok (.ireturn, 1) := by decide +kernel
theorem dX4_isWithinTerm_0 : decode cX4_isWithinTerm 0 = .ok (.aload_n 0, 1) := by decide +kernel
theorem dX4_isWithinTerm_1 : decode cX4_isWithinTerm 1 = .ok (.getfield 28, 3) := by decide +kernel
theorem dX4_isWithinTerm_4 : decode cX4_isWithinTerm 4 = .ok (.iconst (-1), 1) := by decide +kernel
theorem dX4_isWithinTerm_5 : decode cX4_isWithinTerm 5 = .ok (.if_icmp .eq 19, 3) := by decide +kernel
theorem dX4_isWithinTerm_8 : decode cX4_isWithinTerm 8 = .ok (.aload_n 1, 1) := by decide +kernel
theorem dX4_isWithinTerm_9 : decode cX4_isWithinTerm 9 = .ok (.getfield 99, 3) := by decide +kernel
theorem dX4_isWithinTerm_12 : decode cX4_isWithinTerm 12 = .ok (.aload_n 0, 1) := by decide +kernel
theorem dX4_isWithinTerm_13 : decode cX4_isWithinTerm 13 = .ok (.getfield 28, 3) := by decide +kernel
theorem dX4_isWithinTerm_16 : decode cX4_isWithinTerm 16 = .ok (.iaload, 1) := by decide +kernel
theorem dX4_isWithinTerm_17 : decode cX4_isWithinTerm 17 = .ok (.ifCond .ne 7, 3) := by decide +kernel
theorem dX4_isWithinTerm_20 : decode cX4_isWithinTerm 20 = .ok (.iconst 1, 1) := by decide +kernel
theorem dX4_isWithinTerm_21 : decode cX4_isWithinTerm 21 = .ok (.goto 4, 3) := by decide +kernel
theorem dX4_isWithinTerm_24 : decode cX4_isWithinTerm 24 = .ok (.iconst 0, 1) := by decide +kernel
theorem dX4_isWithinTerm_25 : decode cX4_isWithinTerm 25 = .ok (.ireturn, 1) := by decide +kernel
theorem dX4_readAtom_0 : decode cX4_readAtom 0 = .ok (.aload_n 0, 1) := by decide +kernel
theorem dX4_readAtom_1 : decode cX4_readAtom 1 = .ok (.getfield 25, 3) := by decide +kernel
theorem dX4_readAtom_4 : decode cX4_readAtom 4 = .ok (.iconst 1, 1) := by decide +kernel
theorem dX4_readAtom_5 : decode cX4_readAtom 5 = .ok (.iadd, 1) := by decide +kernel
theorem dX4_readAtom_6 : decode cX4_readAtom 6 = .ok (.istore_n 2, 1) := by decide +kernel
theorem dX4_readAtom_7 : decode cX4_readAtom 7 = .ok (.iload_n 2, 1) := by decide +kernel
theorem dX4_readAtom_8 : decode cX4_readAtom 8 = .ok (.aload_n 1, 1) := by decide +kernel
theorem dX4_readAtom_9 : decode cX4_readAtom 9 = .ok (.getfield 15, 3) := by decide +kernel
theorem dX4_readAtom_12 : decode cX4_readAtom 12 = .ok (.if_icmp .ge 21, 3) := by decide +kernel
theorem dX4_readAtom_15 : decode cX4_readAtom 15 = .ok (.aload_n 1, 1) := by decide +kernel
theorem dX4_readAtom_16 : decode cX4_readAtom 16 = .ok (.getfield 34, 3) := by decide +kernel
theorem dX4_readAtom_19 : decode cX4_readAtom 19 = .ok (.iload_n 2, 1) := by decide +kernel
theorem dX4_readAtom_20 : decode cX4_readAtom 20 = .ok (.iaload, 1) := by decide +kernel
theorem dX4_readAtom_21 : decode cX4_readAtom 21 = .ok (.invokestatic 81, 3) := by decide +kernel
theorem dX4_readAtom_24 : decode cX4_readAtom 24 = .ok (.ifCond .eq 9, 3) := by decide +kernel
theorem dX4_readAtom_27 : decode cX4_readAtom 27 = .ok (.iinc 2 1, 3) := by decide +kernel
theorem dX4_readAtom_30 : decode cX4_readAtom 30 = .ok (.goto (-23), 3) := by decide +kernel
theorem dX4_readAtom_33 : decode cX4_readAtom 33 = .ok (.aload_n 0, 1) := by decide +kernel
theorem dX4_readAtom_34 : decode cX4_readAtom 34 = .ok (.iconst 3, 1) := by decide +kernel
theorem dX4_readAtom_35 : decode cX4_readAtom 35 = .ok (.putfield 31, 3) := by decide +kernel
theorem dX4_readAtom_38 : decode cX4_readAtom 38 = .ok (.aload_n 0, 1) := by decide +kernel
theorem dX4_readAtom_39 : decode cX4_readAtom 39 = .ok (.aload_n 1, 1) := by decide +kernel
theorem dX4_readAtom_40 : decode cX4_readAtom 40 = .ok (.iconst 0, 1) := by decide +kernel
theorem dX4_readAtom_41 : decode cX4_readAtom 41 = .ok (.iload_n 2, 1) := by decide +kernel
theorem dX4_readAtom_42 : decode cX4_readAtom 42 = .ok (.invokevirtual 102, 3) := by decide +kernel
theorem dX4_readAtom_45 : decode cX4_readAtom 45 = .ok (.ireturn, 1) := by decide +kernel
theorem dX4_readLettered_0 : decode cX4_readLettered 0 = .ok (.aload_n 0, 1) := by decide +kernel
theorem dX4_readLettered_1 : decode cX4_readLettered 1 = .ok (.getfield 25, 3) := by decide +kernel
theorem dX4_readLettered_4 : decode cX4_readLettered 4 = .ok (.iconst 1, 1) := by decide +kernel
theorem dX4_readLettered_5 : decode cX4_readLettered 5 = .ok (.iadd, 1) := by decide +kernel
theorem dX4_readLettered_6 : decode cX4_readLettered 6 = .ok (.istore_n 3, 1) := by decide +kernel
theorem dX4_readLettered_7 : decode cX4_readLettered 7 = .ok (.iload_n 3, 1) := by decide +kernel
theorem dX4_readLettered_8 : decode cX4_readLettered 8 = .ok (.aload_n 1, 1) := by decide +kernel
theorem dX4_readLettered_9 : decode cX4_readLettered 9 = .ok (.getfield 15, 3) := by decide +kernel
theorem dX4_readLettered_12 : decode cX4_readLettered 12 = .ok (.if_icmp .ge 15, 3) := by decide +kernel
theorem dX4_readLettered_15 : decode cX4_readLettered 15 = .ok (.aload_n 1, 1) := by decide +kernel
theorem dX4_readLettered_16 : decode cX4_readLettered 16 = .ok (.getfield 34, 3) := by decide +kernel
theorem dX4_readLettered_19 : decode cX4_readLettered 19 = .ok (.iload_n 3, 1) := by decide +kernel
theorem dX4_readLettered_20 : decode cX4_readLettered 20 = .ok (.iaload, 1) := by decide +kernel
theorem dX4_readLettered_21 : decode cX4_readLettered 21 = .ok (.invokestatic 106, 3) := by decide +kernel
theorem dX4_readLettered_24 : decode cX4_readLettered 24 = .ok (.ifCond .ne 10, 3) := by decide +kernel
theorem dX4_readLettered_27 : decode cX4_readLettered 27 = .ok (.aload_n 0, 1) := by decide +kernel
