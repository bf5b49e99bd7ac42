theorem dX8_differAll_60 : decode cX8_differAll 60 = .ok (.iload_n 2, 1) := by decide +kernel
theorem dX8_differAll_61 : decode cX8_differAll 61 = .ok (.iaload, 1) := by decide +kernel
theorem dX8_differAll_62 : decode cX8_differAll 62 = .ok (.invokevirtual 221, 3) := by decide +kernel
theorem dX8_differAll_65 : decode cX8_differAll 65 = .ok (.ifCond .eq 5, 3) := by decide +kernel
theorem dX8_differAll_68 : decode cX8_differAll 68 = .ok (.iconst 0, 1) := by decide +kernel
theorem dX8_differAll_69 : decode cX8_differAll 69 = .ok (.ireturn, 1) := by decide +kernel
theorem dX8_differAll_70 : decode cX8_differAll 70 = .ok (.iinc 2 1, 3) := by decide +kernel
theorem dX8_differAll_73 : decode cX8_differAll 73 = .ok (.goto (-63), 3) := by decide +kernel
theorem dX8_differAll_76 : decode cX8_differAll 76 = .ok (.iinc 1 1, 3) := by decide +kernel
theorem dX8_differAll_79 : decode cX8_differAll 79 = .ok (.goto (-77), 3) := by decide +kernel
theorem dX8_differAll_82 : decode cX8_differAll 82 = .ok (.iconst 1, 1) := by decide +kernel
theorem dX8_differAll_83 : decode cX8_differAll 83 = .ok (.ireturn, 1) := by decide +kernel
theorem dX8_does_0 : decode cX8_does 0 = .ok (.iload_n 1, 1) := by decide +kernel
theorem dX8_does_1 : decode cX8_does 1 = .ok (.iconst (-1), 1) := by decide +kernel
theorem dX8_does_2 : decode cX8_does 2 = .ok (.if_icmp .ne 8, 3) := by decide +kernel
theorem dX8_does_5 : decode cX8_does 5 = .ok (.aload_n 0, 1) := by decide +kernel
theorem dX8_does_6 : decode cX8_does 6 = .ok (.invokevirtual 230, 3) := by decide +kernel
theorem dX8_does_9 : decode cX8_does 9 = .ok (.ireturn, 1) := by decide +kernel
theorem dX8_does_10 : decode cX8_does 10 = .ok (.aload_n 0, 1) := by decide +kernel
theorem dX8_does_11 : decode cX8_does 11 = .ok (.getfield 227, 3) := by decide +kernel
theorem dX8_does_14 : decode cX8_does 14 = .ok (.istore_n 2, 1) := by decide +kernel
theorem dX8_does_15 : decode cX8_does 15 = .ok (.aload_n 0, 1) := by decide +kernel
theorem dX8_does_16 : decode cX8_does 16 = .ok (.getfield 49, 3) := by decide +kernel
theorem dX8_does_19 : decode cX8_does 19 = .ok (.iload_n 1, 1) := by decide +kernel
theorem dX8_does_20 : decode cX8_does 20 = .ok (.iaload, 1) := by decide +kernel
theorem dX8_does_21 : decode cX8_does 21 = .ok (.iconst (-1), 1) := by decide +kernel
theorem dX8_does_22 : decode cX8_does 22 = .ok (.if_icmp .ne 28, 3) := by decide +kernel
theorem dX8_does_25 : decode cX8_does 25 = .ok (.aload_n 0, 1) := by decide +kernel
theorem dX8_does_26 : decode cX8_does 26 = .ok (.aload_n 0, 1) := by decide +kernel
theorem dX8_does_27 : decode cX8_does 27 = .ok (.getfield 46, 3) := by decide +kernel
theorem dX8_does_30 : decode cX8_does 30 = .ok (.iload_n 1, 1) := by decide +kernel
theorem dX8_does_31 : decode cX8_does 31 = .ok (.iaload, 1) := by decide +kernel
theorem dX8_does_32 : decode cX8_does 32 = .ok (.aload_n 0, 1) := by decide +kernel
theorem dX8_does_33 : decode cX8_does 33 = .ok (.getfield 52, 3) := by decide +kernel
theorem dX8_does_36 : decode cX8_does 36 = .ok (.iload_n 1, 1) := by decide +kernel
theorem dX8_does_37 : decode cX8_does 37 = .ok (.iaload, 1) := by decide +kernel
theorem dX8_does_38 : decode cX8_does 38 = .ok (.aload_n 0, 1) := by decide +kernel
theorem dX8_does_39 : decode cX8_does 39 = .ok (.getfield 58, 3) := by decide +kernel
theorem dX8_does_42 : decode cX8_does 42 = .ok (.iload_n 1, 1) := by decide +kernel
theorem dX8_does_43 : decode cX8_does 43 = .ok (.iaload, 1) := by decide +kernel
theorem dX8_does_44 : decode cX8_does 44 = .ok (.invokevirtual 233, 3) := by decide +kernel
theorem dX8_does_47 : decode cX8_does 47 = .ok (.goto 8, 3) := by decide +kernel
theorem dX8_does_50 : decode cX8_does 50 = .ok (.aload_n 0, 1) := by decide +kernel
theorem dX8_does_51 : decode cX8_does 51 = .ok (.iload_n 1, 1) := by decide +kernel
theorem dX8_does_52 : decode cX8_does 52 = .ok (.invokevirtual 236, 3) := by decide +kernel
theorem dX8_does_55 : decode cX8_does 55 = .ok (.istore_n 3, 1) := by decide +kernel
theorem dX8_does_56 : decode cX8_does 56 = .ok (.aload_n 0, 1) := by decide +kernel
theorem dX8_does_57 : decode cX8_does 57 = .ok (.iload_n 2, 1) := by decide +kernel
theorem dX8_does_58 : decode cX8_does 58 = .ok (.putfield 227, 3) := by decide +kernel
theorem dX8_does_61 : decode cX8_does 61 = .ok (.iload_n 3, 1) := by decide +kernel
theorem dX8_does_62 : decode cX8_does 62 = .ok (.ireturn, 1) := by decide +kernel
theorem dX8_whole_0 : decode cX8_whole 0 = .ok (.aload_n 0, 1) := by decide +kernel
theorem dX8_whole_1 : decode cX8_whole 1 = .ok (.getfield 20, 3) := by decide +kernel
theorem dX8_whole_4 : decode cX8_whole 4 = .ok (.getfield 125, 3) := by decide +kernel
theorem dX8_whole_7 : decode cX8_whole 7 = .ok (.iload_n 1, 1) := by decide +kernel
theorem dX8_whole_8 : decode cX8_whole 8 = .ok (.iaload, 1) := by decide +kernel
theorem dX8_whole_9 : decode cX8_whole 9 = .ok (.ifCond .ne 36, 3) := by decide +kernel
theorem dX8_whole_12 : decode cX8_whole 12 = .ok (.aload_n 0, 1) := by decide +kernel
theorem dX8_whole_13 : decode cX8_whole 13 = .ok (.aload_n 0, 1) := by decide +kernel
theorem dX8_whole_14 : decode cX8_whole 14 = .ok (.getfield 20, 3) := by decide +kernel
theorem dX8_whole_17 : decode cX8_whole 17 = .ok (.iload_n 1, 1) := by decide +kernel
theorem dX8_whole_18 : decode cX8_whole 18 = .ok (.aload_n 0, 1) := by decide +kernel
theorem dX8_whole_19 : decode cX8_whole 19 = .ok (.getfield 16, 3) := by decide +kernel
theorem dX8_whole_22 : decode cX8_whole 22 = .ok (.iload_n 2, 1) := by decide +kernel
theorem dX8_whole_23 : decode cX8_whole 23 = .ok (.invokevirtual 215, 3) := by decide +kernel
theorem dX8_whole_26 : decode cX8_whole 26 = .ok (.ifCond .ne 5, 3) := by decide +kernel
theorem dX8_whole_29 : decode cX8_whole 29 = .ok (.iconst 0, 1) := by decide +kernel
theorem dX8_whole_30 : decode cX8_whole 30 = .ok (.ireturn, 1) := by decide +kernel
theorem dX8_whole_31 : decode cX8_whole 31 = .ok (.aload_n 0, 1) := by decide +kernel
theorem dX8_whole_32 : decode cX8_whole 32 = .ok (.aload_n 0, 1) := by decide +kernel
theorem dX8_whole_33 : decode cX8_whole 33 = .ok (.iload_n 1, 1) := by decide +kernel
theorem dX8_whole_34 : decode cX8_whole 34 = .ok (.iconst 0, 1) := by decide +kernel
theorem dX8_whole_35 : decode cX8_whole 35 = .ok (.iload_n 2, 1) := by decide +kernel
theorem dX8_whole_36 : decode cX8_whole 36 = .ok (.iconst 0, 1) := by decide +kernel
theorem dX8_whole_37 : decode cX8_whole 37 = .ok (.iload_n 3, 1) := by decide +kernel
theorem dX8_whole_38 : decode cX8_whole 38 = .ok (.invokevirtual 239, 3) := by decide +kernel
theorem dX8_whole_41 : decode cX8_whole 41 = .ok (.invokevirtual 243, 3) := by decide +kernel
theorem dX8_whole_44 : decode cX8_whole 44 = .ok (.ireturn, 1) := by decide +kernel
theorem dX8_whole_45 : decode cX8_whole 45 = .ok (.aload_n 0, 1) := by decide +kernel
theorem dX8_whole_46 : decode cX8_whole 46 = .ok (.getfield 20, 3) := by decide +kernel
theorem dX8_whole_49 : decode cX8_whole 49 = .ok (.getfield 125, 3) := by decide +kernel
theorem dX8_whole_52 : decode cX8_whole 52 = .ok (.iload_n 1, 1) := by decide +kernel
theorem dX8_whole_53 : decode cX8_whole 53 = .ok (.iaload, 1) := by decide +kernel
theorem dX8_whole_54 : decode cX8_whole 54 = .ok (.iconst 1, 1) := by decide +kernel
theorem dX8_whole_55 : decode cX8_whole 55 = .ok (.if_icmp .ne 82, 3) := by decide +kernel
theorem dX8_whole_58 : decode cX8_whole 58 = .ok (.aload_n 0, 1) := by decide +kernel
theorem dX8_whole_59 : decode cX8_whole 59 = .ok (.getfield 20, 3) := by decide +kernel
theorem dX8_whole_62 : decode cX8_whole 62 = .ok (.getfield 140, 3) := by decide +kernel
theorem dX8_whole_65 : decode cX8_whole 65 = .ok (.iload_n 1, 1) := by decide +kernel
theorem dX8_whole_66 : decode cX8_whole 66 = .ok (.iaload, 1) := by decide +kernel
theorem dX8_whole_67 : decode cX8_whole 67 = .ok (.istore 4, 2) := by decide +kernel
theorem dX8_whole_69 : decode cX8_whole 69 = .ok (.aload_n 0, 1) := by decide +kernel
theorem dX8_whole_70 : decode cX8_whole 70 = .ok (.getfield 61, 3) := by decide +kernel
theorem dX8_whole_73 : decode cX8_whole 73 = .ok (.iload 4, 2) := by decide +kernel
theorem dX8_whole_75 : decode cX8_whole 75 = .ok (.iaload, 1) := by decide +kernel
theorem dX8_whole_76 : decode cX8_whole 76 = .ok (.iconst (-1), 1) := by decide +kernel
theorem dX8_whole_77 : decode cX8_whole 77 = .ok (.if_icmp .eq 32, 3) := by decide +kernel
theorem dX8_whole_80 : decode cX8_whole 80 = .ok (.aload_n 0, 1) := by decide +kernel
theorem dX8_whole_81 : decode cX8_whole 81 = .ok (.aload_n 0, 1) := by decide +kernel
theorem dX8_whole_82 : decode cX8_whole 82 = .ok (.getfield 61, 3) := by decide +kernel
theorem dX8_whole_85 : decode cX8_whole 85 = .ok (.iload 4, 2) := by decide +kernel
theorem dX8_whole_87 : decode cX8_whole 87 = .ok (.iaload, 1) := by decide +kernel
theorem dX8_whole_88 : decode cX8_whole 88 = .ok (.iload_n 2, 1) := by decide +kernel
theorem dX8_whole_89 : decode cX8_whole 89 = .ok (.invokevirtual 221, 3) := by decide +kernel
theorem dX8_whole_92 : decode cX8_whole 92 = .ok (.ifCond .eq 15, 3) := by decide +kernel
theorem dX8_whole_95 : decode cX8_whole 95 = .ok (.aload_n 0, 1) := by decide +kernel
theorem dX8_whole_96 : decode cX8_whole 96 = .ok (.iload_n 3, 1) := by decide +kernel
theorem dX8_whole_97 : decode cX8_whole 97 = .ok (.invokevirtual 243, 3) := by decide +kernel
theorem dX8_whole_100 : decode cX8_whole 100 = .ok (.ifCond .eq 7, 3) := by decide +kernel
theorem dX8_whole_103 : decode cX8_whole 103 = .ok (.iconst 1, 1) := by decide +kernel
theorem dX8_whole_104 : decode cX8_whole 104 = .ok (.goto 4, 3) := by decide +kernel
theorem dX8_whole_107 : decode cX8_whole 107 = .ok (.iconst 0, 1) := by decide +kernel
theorem dX8_whole_108 : decode cX8_whole 108 = .ok (.ireturn, 1) := by decide +kernel
theorem dX8_whole_109 : decode cX8_whole 109 = .ok (.aload_n 0, 1) := by decide +kernel
theorem dX8_whole_110 : decode cX8_whole 110 = .ok (.getfield 61, 3) := by decide +kernel
theorem dX8_whole_113 : decode cX8_whole 113 = .ok (.iload 4, 2) := by decide +kernel
theorem dX8_whole_115 : decode cX8_whole 115 = .ok (.iload_n 2, 1) := by decide +kernel
theorem dX8_whole_116 : decode cX8_whole 116 = .ok (.iastore, 1) := by decide +kernel
theorem dX8_whole_117 : decode cX8_whole 117 = .ok (.aload_n 0, 1) := by decide +kernel
theorem dX8_whole_118 : decode cX8_whole 118 = .ok (.iload_n 3, 1) := by decide +kernel
theorem dX8_whole_119 : decode cX8_whole 119 = .ok (.invokevirtual 243, 3) := by decide +kernel
theorem dX8_whole_122 : decode cX8_whole 122 = .ok (.ifCond .eq 5, 3) := by decide +kernel
theorem dX8_whole_125 : decode cX8_whole 125 = .ok (.iconst 1, 1) := by decide +kernel
theorem dX8_whole_126 : decode cX8_whole 126 = .ok (.ireturn, 1) := by decide +kernel
theorem dX8_whole_127 : decode cX8_whole 127 = .ok (.aload_n 0, 1) := by decide +kernel
theorem dX8_whole_128 : decode cX8_whole 128 = .ok (.getfield 61, 3) := by decide +kernel
theorem dX8_whole_131 : decode cX8_whole 131 = .ok (.iload 4, 2) := by decide +kernel
theorem dX8_whole_133 : decode cX8_whole 133 = .ok (.iconst (-1), 1) := by decide +kernel
theorem dX8_whole_134 : decode cX8_whole 134 = .ok (.iastore, 1) := by decide +kernel
theorem dX8_whole_135 : decode cX8_whole 135 = .ok (.iconst 0, 1) := by decide +kernel
theorem dX8_whole_136 : decode cX8_whole 136 = .ok (.ireturn, 1) := by decide +kernel
theorem dX8_whole_137 : decode cX8_whole 137 = .ok (.iload_n 2, 1) := by decide +kernel
theorem dX8_whole_138 : decode cX8_whole 138 = .ok (.istore 4, 2) := by decide +kernel
theorem dX8_whole_140 : decode cX8_whole 140 = .ok (.iload 4, 2) := by decide +kernel
theorem dX8_whole_142 : decode cX8_whole 142 = .ok (.aload_n 0, 1) := by decide +kernel
theorem dX8_whole_143 : decode cX8_whole 143 = .ok (.getfield 16, 3) := by decide +kernel
theorem dX8_whole_146 : decode cX8_whole 146 = .ok (.getfield 122, 3) := by decide +kernel
theorem dX8_whole_149 : decode cX8_whole 149 = .ok (.if_icmp .ge 46, 3) := by decide +kernel
theorem dX8_whole_152 : decode cX8_whole 152 = .ok (.aload_n 0, 1) := by decide +kernel
theorem dX8_whole_153 : decode cX8_whole 153 = .ok (.iload 4, 2) := by decide +kernel
theorem dX8_whole_155 : decode cX8_whole 155 = .ok (.iload_n 2, 1) := by decide +kernel
theorem dX8_whole_156 : decode cX8_whole 156 = .ok (.invokevirtual 246, 3) := by decide +kernel
theorem dX8_whole_159 : decode cX8_whole 159 = .ok (.ifCond .eq 36, 3) := by decide +kernel
theorem dX8_whole_162 : decode cX8_whole 162 = .ok (.aload_n 0, 1) := by decide +kernel
theorem dX8_whole_163 : decode cX8_whole 163 = .ok (.aload_n 0, 1) := by decide +kernel
theorem dX8_whole_164 : decode cX8_whole 164 = .ok (.aload_n 0, 1) := by decide +kernel
theorem dX8_whole_165 : decode cX8_whole 165 = .ok (.getfield 20, 3) := by decide +kernel
theorem dX8_whole_168 : decode cX8_whole 168 = .ok (.iload_n 1, 1) := by decide +kernel
theorem dX8_whole_169 : decode cX8_whole 169 = .ok (.iconst 0, 1) := by decide +kernel
theorem dX8_whole_170 : decode cX8_whole 170 = .ok (.invokevirtual 219, 3) := by decide +kernel
theorem dX8_whole_173 : decode cX8_whole 173 = .ok (.iconst (-1), 1) := by decide +kernel
theorem dX8_whole_174 : decode cX8_whole 174 = .ok (.iload 4, 2) := by decide +kernel
theorem dX8_whole_176 : decode cX8_whole 176 = .ok (.iconst 0, 1) := by decide +kernel
theorem dX8_whole_177 : decode cX8_whole 177 = .ok (.iload_n 3, 1) := by decide +kernel
theorem dX8_whole_178 : decode cX8_whole 178 = .ok (.invokevirtual 239, 3) := by decide +kernel
theorem dX8_whole_181 : decode cX8_whole 181 = .ok (.invokevirtual 243, 3) := by decide +kernel
theorem dX8_whole_184 : decode cX8_whole 184 = .ok (.ifCond .eq 5, 3) := by decide +kernel
theorem dX8_whole_187 : decode cX8_whole 187 = .ok (.iconst 1, 1) := by decide +kernel
theorem dX8_whole_188 : decode cX8_whole 188 = .ok (.ireturn, 1) := by decide +kernel
theorem dX8_whole_189 : decode cX8_whole 189 = .ok (.iinc 4 1, 3) := by decide +kernel
theorem dX8_whole_192 : decode cX8_whole 192 = .ok (.goto (-52), 3) := by decide +kernel
theorem dX8_whole_195 : decode cX8_whole 195 = .ok (.iconst 0, 1) := by decide +kernel
theorem dX8_whole_196 : decode cX8_whole 196 = .ok (.ireturn, 1) := by decide +kernel
theorem dX8_isRowAlike_0 : decode cX8_isRowAlike 0 = .ok (.aload_n 0, 1) := by decide +kernel
theorem dX8_isRowAlike_1 : decode cX8_isRowAlike 1 = .ok (.getfield 67, 3) := by decide +kernel
theorem dX8_isRowAlike_4 : decode cX8_isRowAlike 4 = .ok (.iload_n 1, 1) := by decide +kernel
theorem dX8_isRowAlike_5 : decode cX8_isRowAlike 5 = .ok (.iaload, 1) := by decide +kernel
theorem dX8_isRowAlike_6 : decode cX8_isRowAlike 6 = .ok (.iload 4, 2) := by decide +kernel
theorem dX8_isRowAlike_8 : decode cX8_isRowAlike 8 = .ok (.if_icmp .eq 5, 3) := by decide +kernel
theorem dX8_isRowAlike_11 : decode cX8_isRowAlike 11 = .ok (.iconst 0, 1) := by decide +kernel
theorem dX8_isRowAlike_12 : decode cX8_isRowAlike 12 = .ok (.ireturn, 1) := by decide +kernel
theorem dX8_isRowAlike_13 : decode cX8_isRowAlike 13 = .ok (.iconst 1, 1) := by decide +kernel
theorem dX8_isRowAlike_14 : decode cX8_isRowAlike 14 = .ok (.istore 5, 2) := by decide +kernel
theorem dX8_isRowAlike_16 : decode cX8_isRowAlike 16 = .ok (.iconst 0, 1) := by decide +kernel
theorem dX8_isRowAlike_17 : decode cX8_isRowAlike 17 = .ok (.istore 6, 2) := by decide +kernel
theorem dX8_isRowAlike_19 : decode cX8_isRowAlike 19 = .ok (.iload 6, 2) := by decide +kernel
theorem dX8_isRowAlike_21 : decode cX8_isRowAlike 21 = .ok (.iload 4, 2) := by decide +kernel
theorem dX8_isRowAlike_23 : decode cX8_isRowAlike 23 = .ok (.if_icmp .ge 54, 3) := by decide +kernel
theorem dX8_isRowAlike_26 : decode cX8_isRowAlike 26 = .ok (.iload 5, 2) := by decide +kernel
theorem dX8_isRowAlike_28 : decode cX8_isRowAlike 28 = .ok (.ifCond .eq 49, 3) := by decide +kernel
theorem dX8_isRowAlike_31 : decode cX8_isRowAlike 31 = .ok (.aload_n 0, 1) := by decide +kernel
theorem dX8_isRowAlike_32 : decode cX8_isRowAlike 32 = .ok (.aload_n 0, 1) := by decide +kernel
theorem dX8_isRowAlike_33 : decode cX8_isRowAlike 33 = .ok (.getfield 16, 3) := by decide +kernel
theorem dX8_isRowAlike_36 : decode cX8_isRowAlike 36 = .ok (.aload_n 0, 1) := by decide +kernel
theorem dX8_isRowAlike_37 : decode cX8_isRowAlike 37 = .ok (.getfield 70, 3) := by decide +kernel
theorem dX8_isRowAlike_40 : decode cX8_isRowAlike 40 = .ok (.iload_n 1, 1) := by decide +kernel
theorem dX8_isRowAlike_41 : decode cX8_isRowAlike 41 = .ok (.iaload, 1) := by decide +kernel
theorem dX8_isRowAlike_42 : decode cX8_isRowAlike 42 = .ok (.aload_n 0, 1) := by decide +kernel
theorem dX8_isRowAlike_43 : decode cX8_isRowAlike 43 = .ok (.getfield 73, 3) := by decide +kernel
theorem dX8_isRowAlike_46 : decode cX8_isRowAlike 46 = .ok (.iload_n 1, 1) := by decide +kernel
theorem dX8_isRowAlike_47 : decode cX8_isRowAlike 47 = .ok (.iaload, 1) := by decide +kernel
theorem dX8_isRowAlike_48 : decode cX8_isRowAlike 48 = .ok (.iload 6, 2) := by decide +kernel
theorem dX8_isRowAlike_50 : decode cX8_isRowAlike 50 = .ok (.iadd, 1) := by decide +kernel
theorem dX8_isRowAlike_51 : decode cX8_isRowAlike 51 = .ok (.invokevirtual 219, 3) := by decide +kernel
theorem dX8_isRowAlike_54 : decode cX8_isRowAlike 54 = .ok (.aload_n 0, 1) := by decide +kernel
theorem dX8_isRowAlike_55 : decode cX8_isRowAlike 55 = .ok (.getfield 16, 3) := by decide +kernel
theorem dX8_isRowAlike_58 : decode cX8_isRowAlike 58 = .ok (.iload_n 2, 1) := by decide +kernel
theorem dX8_isRowAlike_59 : decode cX8_isRowAlike 59 = .ok (.iload_n 3, 1) := by decide +kernel
theorem dX8_isRowAlike_60 : decode cX8_isRowAlike 60 = .ok (.iload 6, 2) := by decide +kernel
theorem dX8_isRowAlike_62 : decode cX8_isRowAlike 62 = .ok (.iadd, 1) := by decide +kernel
theorem dX8_isRowAlike_63 : decode cX8_isRowAlike 63 = .ok (.invokevirtual 219, 3) := by decide +kernel
theorem dX8_isRowAlike_66 : decode cX8_isRowAlike 66 = .ok (.invokevirtual 221, 3) := by decide +kernel
theorem dX8_isRowAlike_69 : decode cX8_isRowAlike 69 = .ok (.istore 5, 2) := by decide +kernel
theorem dX8_isRowAlike_71 : decode cX8_isRowAlike 71 = .ok (.iinc 6 1, 3) := by decide +kernel
theorem dX8_isRowAlike_74 : decode cX8_isRowAlike 74 = .ok (.goto (-55), 3) := by decide +kernel
theorem dX8_isRowAlike_77 : decode cX8_isRowAlike 77 = .ok (.iload 5, 2) := by decide +kernel
theorem dX8_isRowAlike_79 : decode cX8_isRowAlike 79 = .ok (.ireturn, 1) := by decide +kernel
theorem dX8_some_0 : decode cX8_some 0 = .ok (.aload_n 0, 1) := by decide +kernel
theorem dX8_some_1 : decode cX8_some 1 = .ok (.getfield 46, 3) := by decide +kernel
theorem dX8_some_4 : decode cX8_some 4 = .ok (.iload_n 1, 1) := by decide +kernel
theorem dX8_some_5 : decode cX8_some 5 = .ok (.iaload, 1) := by decide +kernel
theorem dX8_some_6 : decode cX8_some 6 = .ok (.istore_n 2, 1) := by decide +kernel
theorem dX8_some_7 : decode cX8_some 7 = .ok (.aload_n 0, 1) := by decide +kernel
theorem dX8_some_8 : decode cX8_some 8 = .ok (.getfield 49, 3) := by decide +kernel
theorem dX8_some_11 : decode cX8_some 11 = .ok (.iload_n 1, 1) := by decide +kernel
theorem dX8_some_12 : decode cX8_some 12 = .ok (.iaload, 1) := by decide +kernel
theorem dX8_some_13 : decode cX8_some 13 = .ok (.istore_n 3, 1) := by decide +kernel
theorem dX8_some_14 : decode cX8_some 14 = .ok (.aload_n 0, 1) := by decide +kernel
theorem dX8_some_15 : decode cX8_some 15 = .ok (.getfield 52, 3) := by decide +kernel
theorem dX8_some_18 : decode cX8_some 18 = .ok (.iload_n 1, 1) := by decide +kernel
theorem dX8_some_19 : decode cX8_some 19 = .ok (.iaload, 1) := by decide +kernel
theorem dX8_some_20 : decode cX8_some 20 = .ok (.istore 4, 2) := by decide +kernel
theorem dX8_some_22 : decode cX8_some 22 = .ok (.aload_n 0, 1) := by decide +kernel
theorem dX8_some_23 : decode cX8_some 23 = .ok (.getfield 55, 3) := by decide +kernel
theorem dX8_some_26 : decode cX8_some 26 = .ok (.iload_n 1, 1) := by decide +kernel
theorem dX8_some_27 : decode cX8_some 27 = .ok (.iaload, 1) := by decide +kernel
theorem dX8_some_28 : decode cX8_some 28 = .ok (.istore 5, 2) := by decide +kernel
theorem dX8_some_30 : decode cX8_some 30 = .ok (.aload_n 0, 1) := by decide +kernel
theorem dX8_some_31 : decode cX8_some 31 = .ok (.getfield 58, 3) := by decide +kernel
theorem dX8_some_34 : decode cX8_some 34 = .ok (.iload_n 1, 1) := by decide +kernel
theorem dX8_some_35 : decode cX8_some 35 = .ok (.iaload, 1) := by decide +kernel
theorem dX8_some_36 : decode cX8_some 36 = .ok (.istore 6, 2) := by decide +kernel
theorem dX8_some_38 : decode cX8_some 38 = .ok (.iload_n 3, 1) := by decide +kernel
theorem dX8_some_39 : decode cX8_some 39 = .ok (.aload_n 0, 1) := by decide +kernel
theorem dX8_some_40 : decode cX8_some 40 = .ok (.getfield 20, 3) := by decide +kernel
theorem dX8_some_43 : decode cX8_some 43 = .ok (.getfield 134, 3) := by decide +kernel
theorem dX8_some_46 : decode cX8_some 46 = .ok (.iload_n 2, 1) := by decide +kernel
theorem dX8_some_47 : decode cX8_some 47 = .ok (.iaload, 1) := by decide +kernel
theorem dX8_some_48 : decode cX8_some 48 = .ok (.if_icmp .ne 33, 3) := by decide +kernel
theorem dX8_some_51 : decode cX8_some 51 = .ok (.iload 5, 2) := by decide +kernel
theorem dX8_some_53 : decode cX8_some 53 = .ok (.aload_n 0, 1) := by decide +kernel
theorem dX8_some_54 : decode cX8_some 54 = .ok (.getfield 16, 3) := by decide +kernel
theorem dX8_some_57 : decode cX8_some 57 = .ok (.getfield 134, 3) := by decide +kernel
theorem dX8_some_60 : decode cX8_some 60 = .ok (.iload 4, 2) := by decide +kernel
theorem dX8_some_62 : decode cX8_some 62 = .ok (.iaload, 1) := by decide +kernel
theorem dX8_some_63 : decode cX8_some 63 = .ok (.if_icmp .ne 16, 3) := by decide +kernel
theorem dX8_some_66 : decode cX8_some 66 = .ok (.aload_n 0, 1) := by decide +kernel
theorem dX8_some_67 : decode cX8_some 67 = .ok (.iload 6, 2) := by decide +kernel
theorem dX8_some_69 : decode cX8_some 69 = .ok (.invokevirtual 243, 3) := by decide +kernel
theorem dX8_some_72 : decode cX8_some 72 = .ok (.ifCond .eq 7, 3) := by decide +kernel
theorem dX8_some_75 : decode cX8_some 75 = .ok (.iconst 1, 1) := by decide +kernel
theorem dX8_some_76 : decode cX8_some 76 = .ok (.goto 4, 3) := by decide +kernel
theorem dX8_some_79 : decode cX8_some 79 = .ok (.iconst 0, 1) := by decide +kernel
theorem dX8_some_80 : decode cX8_some 80 = .ok (.ireturn, 1) := by decide +kernel
theorem dX8_some_81 : decode cX8_some 81 = .ok (.aload_n 0, 1) := by decide +kernel
theorem dX8_some_82 : decode cX8_some 82 = .ok (.getfield 20, 3) := by decide +kernel
theorem dX8_some_85 : decode cX8_some 85 = .ok (.iload_n 2, 1) := by decide +kernel
theorem dX8_some_86 : decode cX8_some 86 = .ok (.iload_n 3, 1) := by decide +kernel
theorem dX8_some_87 : decode cX8_some 87 = .ok (.invokevirtual 219, 3) := by decide +kernel
theorem dX8_some_90 : decode cX8_some 90 = .ok (.istore 7, 2) := by decide +kernel
theorem dX8_some_92 : decode cX8_some 92 = .ok (.aload_n 0, 1) := by decide +kernel
theorem dX8_some_93 : decode cX8_some 93 = .ok (.getfield 20, 3) := by decide +kernel
theorem dX8_some_96 : decode cX8_some 96 = .ok (.getfield 125, 3) := by decide +kernel
theorem dX8_some_99 : decode cX8_some 99 = .ok (.iload 7, 2) := by decide +kernel
theorem dX8_some_101 : decode cX8_some 101 = .ok (.iaload, 1) := by decide +kernel
theorem dX8_some_102 : decode cX8_some 102 = .ok (.iconst 2, 1) := by decide +kernel
theorem dX8_some_103 : decode cX8_some 103 = .ok (.if_icmp .eq 60, 3) := by decide +kernel
theorem dX8_some_106 : decode cX8_some 106 = .ok (.iload 5, 2) := by decide +kernel
theorem dX8_some_108 : decode cX8_some 108 = .ok (.aload_n 0, 1) := by decide +kernel
theorem dX8_some_109 : decode cX8_some 109 = .ok (.getfield 16, 3) := by decide +kernel
theorem dX8_some_112 : decode cX8_some 112 = .ok (.getfield 134, 3) := by decide +kernel
theorem dX8_some_115 : decode cX8_some 115 = .ok (.iload 4, 2) := by decide +kernel
theorem dX8_some_117 : decode cX8_some 117 = .ok (.iaload, 1) := by decide +kernel
theorem dX8_some_118 : decode cX8_some 118 = .ok (.if_icmp .ne 5, 3) := by decide +kernel
theorem dX8_some_121 : decode cX8_some 121 = .ok (.iconst 0, 1) := by decide +kernel
theorem dX8_some_122 : decode cX8_some 122 = .ok (.ireturn, 1) := by decide +kernel
theorem dX8_some_123 : decode cX8_some 123 = .ok (.aload_n 0, 1) := by decide +kernel
theorem dX8_some_124 : decode cX8_some 124 = .ok (.aload_n 0, 1) := by decide +kernel
theorem dX8_some_125 : decode cX8_some 125 = .ok (.iload 7, 2) := by decide +kernel
theorem dX8_some_127 : decode cX8_some 127 = .ok (.iconst (-1), 1) := by decide +kernel
theorem dX8_some_128 : decode cX8_some 128 = .ok (.aload_n 0, 1) := by decide +kernel
theorem dX8_some_129 : decode cX8_some 129 = .ok (.getfield 16, 3) := by decide +kernel
theorem dX8_some_132 : decode cX8_some 132 = .ok (.iload 4, 2) := by decide +kernel
theorem dX8_some_134 : decode cX8_some 134 = .ok (.iload 5, 2) := by decide +kernel
theorem dX8_some_136 : decode cX8_some 136 = .ok (.invokevirtual 219, 3) := by decide +kernel
theorem dX8_some_139 : decode cX8_some 139 = .ok (.iconst 0, 1) := by decide +kernel
theorem dX8_some_140 : decode cX8_some 140 = .ok (.aload_n 0, 1) := by decide +kernel
theorem dX8_some_141 : decode cX8_some 141 = .ok (.iload_n 2, 1) := by decide +kernel
theorem dX8_some_142 : decode cX8_some 142 = .ok (.iload_n 3, 1) := by decide +kernel
theorem dX8_some_143 : decode cX8_some 143 = .ok (.iconst 1, 1) := by decide +kernel
theorem dX8_some_144 : decode cX8_some 144 = .ok (.iadd, 1) := by decide +kernel
theorem dX8_some_145 : decode cX8_some 145 = .ok (.iload 4, 2) := by decide +kernel
theorem dX8_some_147 : decode cX8_some 147 = .ok (.iload 5, 2) := by decide +kernel
theorem dX8_some_149 : decode cX8_some 149 = .ok (.iconst 1, 1) := by decide +kernel
theorem dX8_some_150 : decode cX8_some 150 = .ok (.iadd, 1) := by decide +kernel
theorem dX8_some_151 : decode cX8_some 151 = .ok (.iload 6, 2) := by decide +kernel
theorem dX8_some_153 : decode cX8_some 153 = .ok (.invokevirtual 239, 3) := by decide +kernel
theorem dX8_some_156 : decode cX8_some 156 = .ok (.invokevirtual 239, 3) := by decide +kernel
theorem dX8_some_159 : decode cX8_some 159 = .ok (.invokevirtual 243, 3) := by decide +kernel
theorem dX8_some_162 : decode cX8_some 162 = .ok (.ireturn, 1) := by decide +kernel
theorem dX8_some_163 : decode cX8_some 163 = .ok (.aload_n 0, 1) := by decide +kernel
theorem dX8_some_164 : decode cX8_some 164 = .ok (.getfield 20, 3) := by decide +kernel
theorem dX8_some_167 : decode cX8_some 167 = .ok (.getfield 140, 3) := by decide +kernel
theorem dX8_some_170 : decode cX8_some 170 = .ok (.iload 7, 2) := by decide +kernel
theorem dX8_some_172 : decode cX8_some 172 = .ok (.iaload, 1) := by decide +kernel
theorem dX8_some_173 : decode cX8_some 173 = .ok (.istore 8, 2) := by decide +kernel
theorem dX8_some_175 : decode cX8_some 175 = .ok (.aload_n 0, 1) := by decide +kernel
theorem dX8_some_176 : decode cX8_some 176 = .ok (.getfield 67, 3) := by decide +kernel
theorem dX8_some_179 : decode cX8_some 179 = .ok (.iload 8, 2) := by decide +kernel
theorem dX8_some_181 : decode cX8_some 181 = .ok (.iaload, 1) := by decide +kernel
theorem dX8_some_182 : decode cX8_some 182 = .ok (.iconst (-1), 1) := by decide +kernel
theorem dX8_some_183 : decode cX8_some 183 = .ok (.if_icmp .eq 7, 3) := by decide +kernel
theorem dX8_some_186 : decode cX8_some 186 = .ok (.iconst 1, 1) := by decide +kernel
theorem dX8_some_187 : decode cX8_some 187 = .ok (.goto 4, 3) := by decide +kernel
theorem dX8_some_190 : decode cX8_some 190 = .ok (.iconst 0, 1) := by decide +kernel
theorem dX8_some_191 : decode cX8_some 191 = .ok (.istore 9, 2) := by decide +kernel
theorem dX8_some_193 : decode cX8_some 193 = .ok (.iconst 0, 1) := by decide +kernel
theorem dX8_some_194 : decode cX8_some 194 = .ok (.istore 10, 2) := by decide +kernel
theorem dX8_some_196 : decode cX8_some 196 = .ok (.iload 5, 2) := by decide +kernel
theorem dX8_some_198 : decode cX8_some 198 = .ok (.iload 10, 2) := by decide +kernel
theorem dX8_some_200 : decode cX8_some 200 = .ok (.iadd, 1) := by decide +kernel
theorem dX8_some_201 : decode cX8_some 201 = .ok (.aload_n 0, 1) := by decide +kernel
theorem dX8_some_202 : decode cX8_some 202 = .ok (.getfield 16, 3) := by decide +kernel
theorem dX8_some_205 : decode cX8_some 205 = .ok (.getfield 134, 3) := by decide +kernel
theorem dX8_some_208 : decode cX8_some 208 = .ok (.iload 4, 2) := by decide +kernel
theorem dX8_some_210 : decode cX8_some 210 = .ok (.iaload, 1) := by decide +kernel
theorem dX8_some_211 : decode cX8_some 211 = .ok (.if_icmp .gt 143, 3) := by decide +kernel
theorem dX8_some_214 : decode cX8_some 214 = .ok (.iload 9, 2) := by decide +kernel
theorem dX8_some_216 : decode cX8_some 216 = .ok (.ifCond .eq 44, 3) := by decide +kernel
theorem dX8_some_219 : decode cX8_some 219 = .ok (.aload_n 0, 1) := by decide +kernel
theorem dX8_some_220 : decode cX8_some 220 = .ok (.iload 8, 2) := by decide +kernel
theorem dX8_some_222 : decode cX8_some 222 = .ok (.iload 4, 2) := by decide +kernel
theorem dX8_some_224 : decode cX8_some 224 = .ok (.iload 5, 2) := by decide +kernel
theorem dX8_some_226 : decode cX8_some 226 = .ok (.iload 10, 2) := by decide +kernel
theorem dX8_some_228 : decode cX8_some 228 = .ok (.invokevirtual 249, 3) := by decide +kernel
theorem dX8_some_231 : decode cX8_some 231 = .ok (.ifCond .eq 117, 3) := by decide +kernel
theorem dX8_some_234 : decode cX8_some 234 = .ok (.aload_n 0, 1) := by decide +kernel
theorem dX8_some_235 : decode cX8_some 235 = .ok (.aload_n 0, 1) := by decide +kernel
theorem dX8_some_236 : decode cX8_some 236 = .ok (.iload_n 2, 1) := by decide +kernel
theorem dX8_some_237 : decode cX8_some 237 = .ok (.iload_n 3, 1) := by decide +kernel
theorem dX8_some_238 : decode cX8_some 238 = .ok (.iconst 1, 1) := by decide +kernel
theorem dX8_some_239 : decode cX8_some 239 = .ok (.iadd, 1) := by decide +kernel
theorem dX8_some_240 : decode cX8_some 240 = .ok (.iload 4, 2) := by decide +kernel
theorem dX8_some_242 : decode cX8_some 242 = .ok (.iload 5, 2) := by decide +kernel
theorem dX8_some_244 : decode cX8_some 244 = .ok (.iload 10, 2) := by decide +kernel
theorem dX8_some_246 : decode cX8_some 246 = .ok (.iadd, 1) := by decide +kernel
theorem dX8_some_247 : decode cX8_some 247 = .ok (.iload 6, 2) := by decide +kernel
theorem dX8_some_249 : decode cX8_some 249 = .ok (.invokevirtual 239, 3) := by decide +kernel
theorem dX8_some_252 : decode cX8_some 252 = .ok (.invokevirtual 243, 3) := by decide +kernel
theorem dX8_some_255 : decode cX8_some 255 = .ok (.ifCond .eq 93, 3) := by decide +kernel
theorem dX8_some_258 : decode cX8_some 258 = .ok (.iconst 1, 1) := by decide +kernel
theorem dX8_some_259 : decode cX8_some 259 = .ok (.ireturn, 1) := by decide +kernel
theorem dX8_some_260 : decode cX8_some 260 = .ok (.aload_n 0, 1) := by decide +kernel
theorem dX8_some_261 : decode cX8_some 261 = .ok (.getfield 67, 3) := by decide +kernel
theorem dX8_some_264 : decode cX8_some 264 = .ok (.iload 8, 2) := by decide +kernel
theorem dX8_some_266 : decode cX8_some 266 = .ok (.iload 10, 2) := by decide +kernel
theorem dX8_some_268 : decode cX8_some 268 = .ok (.iastore, 1) := by decide +kernel
theorem dX8_some_269 : decode cX8_some 269 = .ok (.aload_n 0, 1) := by decide +kernel
theorem dX8_some_270 : decode cX8_some 270 = .ok (.getfield 70, 3) := by decide +kernel
theorem dX8_some_273 : decode cX8_some 273 = .ok (.iload 8, 2) := by decide +kernel
theorem dX8_some_275 : decode cX8_some 275 = .ok (.iload 4, 2) := by decide +kernel
theorem dX8_some_277 : decode cX8_some 277 = .ok (.iastore, 1) := by decide +kernel
theorem dX8_some_278 : decode cX8_some 278 = .ok (.aload_n 0, 1) := by decide +kernel
theorem dX8_some_279 : decode cX8_some 279 = .ok (.getfield 73, 3) := by decide +kernel
theorem dX8_some_282 : decode cX8_some 282 = .ok (.iload 8, 2) := by decide +kernel
theorem dX8_some_284 : decode cX8_some 284 = .ok (.iload 5, 2) := by decide +kernel
theorem dX8_some_286 : decode cX8_some 286 = .ok (.iastore, 1) := by decide +kernel
theorem dX8_some_287 : decode cX8_some 287 = .ok (.aload_n 0, 1) := by decide +kernel
theorem dX8_some_288 : decode cX8_some 288 = .ok (.getfield 64, 3) := by decide +kernel
theorem dX8_some_291 : decode cX8_some 291 = .ok (.iload 8, 2) := by decide +kernel
theorem dX8_some_293 : decode cX8_some 293 = .ok (.iload 10, 2) := by decide +kernel
theorem dX8_some_295 : decode cX8_some 295 = .ok (.ifCond .ne 7, 3) := by decide +kernel
theorem dX8_some_298 : decode cX8_some 298 = .ok (.iconst (-1), 1) := by decide +kernel
theorem dX8_some_299 : decode cX8_some 299 = .ok (.goto 14, 3) := by decide +kernel
theorem dX8_some_302 : decode cX8_some 302 = .ok (.aload_n 0, 1) := by decide +kernel
theorem dX8_some_303 : decode cX8_some 303 = .ok (.getfield 16, 3) := by decide +kernel
theorem dX8_some_306 : decode cX8_some 306 = .ok (.iload 4, 2) := by decide +kernel
theorem dX8_some_308 : decode cX8_some 308 = .ok (.iload 5, 2) := by decide +kernel
theorem dX8_some_310 : decode cX8_some 310 = .ok (.invokevirtual 219, 3) := by decide +kernel
theorem dX8_some_313 : decode cX8_some 313 = .ok (.iastore, 1) := by decide +kernel
theorem dX8_some_314 : decode cX8_some 314 = .ok (.aload_n 0, 1) := by decide +kernel
theorem dX8_some_315 : decode cX8_some 315 = .ok (.aload_n 0, 1) := by decide +kernel
theorem dX8_some_316 : decode cX8_some 316 = .ok (.iload_n 2, 1) := by decide +kernel
theorem dX8_some_317 : decode cX8_some 317 = .ok (.iload_n 3, 1) := by decide +kernel
theorem dX8_some_318 : decode cX8_some 318 = .ok (.iconst 1, 1) := by decide +kernel
theorem dX8_some_319 : decode cX8_some 319 = .ok (.iadd, 1) := by decide +kernel
theorem dX8_some_320 : decode cX8_some 320 = .ok (.iload 4, 2) := by decide +kernel
theorem dX8_some_322 : decode cX8_some 322 = .ok (.iload 5, 2) := by decide +kernel
theorem dX8_some_324 : decode cX8_some 324 = .ok (.iload 10, 2) := by decide +kernel
theorem dX8_some_326 : decode cX8_some 326 = .ok (.iadd, 1) := by decide +kernel
theorem dX8_some_327 : decode cX8_some 327 = .ok (.iload 6, 2) := by decide +kernel
theorem dX8_some_329 : decode cX8_some 329 = .ok (.invokevirtual 239, 3) := by decide +kernel
theorem dX8_some_332 : decode cX8_some 332 = .ok (.invokevirtual 243, 3) := by decide +kernel
theorem dX8_some_335 : decode cX8_some 335 = .ok (.ifCond .eq 5, 3) := by decide +kernel
theorem dX8_some_338 : decode cX8_some 338 = .ok (.iconst 1, 1) := by decide +kernel
theorem dX8_some_339 : decode cX8_some 339 = .ok (.ireturn, 1) := by decide +kernel
theorem dX8_some_340 : decode cX8_some 340 = .ok (.aload_n 0, 1) := by decide +kernel
theorem dX8_some_341 : decode cX8_some 341 = .ok (.getfield 67, 3) := by decide +kernel
theorem dX8_some_344 : decode cX8_some 344 = .ok (.iload 8, 2) := by decide +kernel
theorem dX8_some_346 : decode cX8_some 346 = .ok (.iconst (-1), 1) := by decide +kernel
theorem dX8_some_347 : decode cX8_some 347 = .ok (.iastore, 1) := by decide +kernel
theorem dX8_some_348 : decode cX8_some 348 = .ok (.iinc 10 1, 3) := by decide +kernel
theorem dX8_some_351 : decode cX8_some 351 = .ok (.goto (-155), 3) := by decide +kernel
theorem dX8_some_354 : decode cX8_some 354 = .ok (.iconst 0, 1) := by decide +kernel
theorem dX8_some_355 : decode cX8_some 355 = .ok (.ireturn, 1) := by decide +kernel
theorem dX8_isMatched_0 : decode cX8_isMatched 0 = .ok (.aload_n 0, 1) := by decide +kernel
theorem dX8_isMatched_1 : decode cX8_isMatched 1 = .ok (.iconst 0, 1) := by decide +kernel
theorem dX8_isMatched_2 : decode cX8_isMatched 2 = .ok (.putfield 227, 3) := by decide +kernel
theorem dX8_isMatched_5 : decode cX8_isMatched 5 = .ok (.iconst 0, 1) := by decide +kernel
theorem dX8_isMatched_6 : decode cX8_isMatched 6 = .ok (.istore_n 2, 1) := by decide +kernel
theorem dX8_isMatched_7 : decode cX8_isMatched 7 = .ok (.iload_n 2, 1) := by decide +kernel
theorem dX8_isMatched_8 : decode cX8_isMatched 8 = .ok (.bipush 26, 2) := by decide +kernel
theorem dX8_isMatched_10 : decode cX8_isMatched 10 = .ok (.if_icmp .ge 23, 3) := by decide +kernel
theorem dX8_isMatched_13 : decode cX8_isMatched 13 = .ok (.aload_n 0, 1) := by decide +kernel
theorem dX8_isMatched_14 : decode cX8_isMatched 14 = .ok (.getfield 61, 3) := by decide +kernel
theorem dX8_isMatched_17 : decode cX8_isMatched 17 = .ok (.iload_n 2, 1) := by decide +kernel
theorem dX8_isMatched_18 : decode cX8_isMatched 18 = .ok (.iconst (-1), 1) := by decide +kernel
theorem dX8_isMatched_19 : decode cX8_isMatched 19 = .ok (.iastore, 1) := by decide +kernel
theorem dX8_isMatched_20 : decode cX8_isMatched 20 = .ok (.aload_n 0, 1) := by decide +kernel
theorem dX8_isMatched_21 : decode cX8_isMatched 21 = .ok (.getfield 67, 3) := by decide +kernel
theorem dX8_isMatched_24 : decode cX8_isMatched 24 = .ok (.iload_n 2, 1) := by decide +kernel
theorem dX8_isMatched_25 : decode cX8_isMatched 25 = .ok (.iconst (-1), 1) := by decide +kernel
theorem dX8_isMatched_26 : decode cX8_isMatched 26 = .ok (.iastore, 1) := by decide +kernel
theorem dX8_isMatched_27 : decode cX8_isMatched 27 = .ok (.iinc 2 1, 3) := by decide +kernel
theorem dX8_isMatched_30 : decode cX8_isMatched 30 = .ok (.goto (-23), 3) := by decide +kernel
theorem dX8_isMatched_33 : decode cX8_isMatched 33 = .ok (.aload_n 0, 1) := by decide +kernel
theorem dX8_isMatched_34 : decode cX8_isMatched 34 = .ok (.aload_n 0, 1) := by decide +kernel
theorem dX8_isMatched_35 : decode cX8_isMatched 35 = .ok (.iconst 0, 1) := by decide +kernel
theorem dX8_isMatched_36 : decode cX8_isMatched 36 = .ok (.iconst (-1), 1) := by decide +kernel
theorem dX8_isMatched_37 : decode cX8_isMatched 37 = .ok (.iload_n 1, 1) := by decide +kernel
theorem dX8_isMatched_38 : decode cX8_isMatched 38 = .ok (.iconst 0, 1) := by decide +kernel
theorem dX8_isMatched_39 : decode cX8_isMatched 39 = .ok (.iconst (-1), 1) := by decide +kernel
theorem dX8_isMatched_40 : decode cX8_isMatched 40 = .ok (.invokevirtual 239, 3) := by decide +kernel
theorem dX8_isMatched_43 : decode cX8_isMatched 43 = .ok (.invokevirtual 243, 3) := by decide +kernel
theorem dX8_isMatched_46 : decode cX8_isMatched 46 = .ok (.ireturn, 1) := by decide +kernel
theorem dX8_all_0 : decode cX8_all 0 = .ok (.iconst 0, 1) := by decide +kernel
theorem dX8_all_1 : decode cX8_all 1 = .ok (.istore_n 1, 1) := by decide +kernel
theorem dX8_all_2 : decode cX8_all 2 = .ok (.iconst 0, 1) := by decide +kernel
theorem dX8_all_3 : decode cX8_all 3 = .ok (.istore_n 2, 1) := by decide +kernel
theorem dX8_all_4 : decode cX8_all 4 = .ok (.iload_n 2, 1) := by decide +kernel
theorem dX8_all_5 : decode cX8_all 5 = .ok (.aload_n 0, 1) := by decide +kernel
theorem dX8_all_6 : decode cX8_all 6 = .ok (.getfield 16, 3) := by decide +kernel
theorem dX8_all_9 : decode cX8_all 9 = .ok (.getfield 122, 3) := by decide +kernel
theorem dX8_all_12 : decode cX8_all 12 = .ok (.if_icmp .ge 37, 3) := by decide +kernel
theorem dX8_all_15 : decode cX8_all 15 = .ok (.aload_n 0, 1) := by decide +kernel
theorem dX8_all_16 : decode cX8_all 16 = .ok (.getfield 76, 3) := by decide +kernel
theorem dX8_all_19 : decode cX8_all 19 = .ok (.iload_n 2, 1) := by decide +kernel
theorem dX8_all_20 : decode cX8_all 20 = .ok (.aload_n 0, 1) := by decide +kernel
theorem dX8_all_21 : decode cX8_all 21 = .ok (.iload_n 2, 1) := by decide +kernel
theorem dX8_all_22 : decode cX8_all 22 = .ok (.invokevirtual 253, 3) := by decide +kernel
theorem dX8_all_25 : decode cX8_all 25 = .ok (.bastore, 1) := by decide +kernel
theorem dX8_all_26 : decode cX8_all 26 = .ok (.iload_n 1, 1) := by decide +kernel
theorem dX8_all_27 : decode cX8_all 27 = .ok (.aload_n 0, 1) := by decide +kernel
theorem dX8_all_28 : decode cX8_all 28 = .ok (.getfield 76, 3) := by decide +kernel
theorem dX8_all_31 : decode cX8_all 31 = .ok (.iload_n 2, 1) := by decide +kernel
theorem dX8_all_32 : decode cX8_all 32 = .ok (.baload, 1) := by decide +kernel
theorem dX8_all_33 : decode cX8_all 33 = .ok (.ifCond .eq 7, 3) := by decide +kernel
theorem dX8_all_36 : decode cX8_all 36 = .ok (.iconst 1, 1) := by decide +kernel
theorem dX8_all_37 : decode cX8_all 37 = .ok (.goto 4, 3) := by decide +kernel
theorem dX8_all_40 : decode cX8_all 40 = .ok (.iconst 0, 1) := by decide +kernel
theorem dX8_all_41 : decode cX8_all 41 = .ok (.iadd, 1) := by decide +kernel
theorem dX8_all_42 : decode cX8_all 42 = .ok (.istore_n 1, 1) := by decide +kernel
theorem dX8_all_43 : decode cX8_all 43 = .ok (.iinc 2 1, 3) := by decide +kernel
theorem dX8_all_46 : decode cX8_all 46 = .ok (.goto (-42), 3) := by decide +kernel
theorem dX8_all_49 : decode cX8_all 49 = .ok (.iload_n 1, 1) := by decide +kernel
theorem dX8_all_50 : decode cX8_all 50 = .ok (.ireturn, 1) := by decide +kernel
theorem dX8_matches_0 : decode cX8_matches 0 = .ok (.aload_n 0, 1) := by decide +kernel
theorem dX8_matches_1 : decode cX8_matches 1 = .ok (.iconst 0, 1) := by decide +kernel
theorem dX8_matches_2 : decode cX8_matches 2 = .ok (.putfield 103, 3) := by decide +kernel
theorem dX8_matches_5 : decode cX8_matches 5 = .ok (.aload_n 0, 1) := by decide +kernel
theorem dX8_matches_6 : decode cX8_matches 6 = .ok (.invokevirtual 256, 3) := by decide +kernel
theorem dX8_matches_9 : decode cX8_matches 9 = .ok (.ireturn, 1) := by decide +kernel
theorem dX8_match_0 : decode cX8_match 0 = .ok (.aload_n 0, 1) := by decide +kernel
theorem dX8_match_1 : decode cX8_match 1 = .ok (.iconst 0, 1) := by decide +kernel
theorem dX8_match_2 : decode cX8_match 2 = .ok (.putfield 103, 3) := by decide +kernel
theorem dX8_match_5 : decode cX8_match 5 = .ok (.aload_n 0, 1) := by decide +kernel
theorem dX8_match_6 : decode cX8_match 6 = .ok (.invokevirtual 256, 3) := by decide +kernel
theorem dX8_match_9 : decode cX8_match 9 = .ok (.istore_n 2, 1) := by decide +kernel
theorem dX8_match_10 : decode cX8_match 10 = .ok (.iconst 0, 1) := by decide +kernel
theorem dX8_match_11 : decode cX8_match 11 = .ok (.istore_n 3, 1) := by decide +kernel
theorem dX8_match_12 : decode cX8_match 12 = .ok (.iconst 0, 1) := by decide +kernel
theorem dX8_match_13 : decode cX8_match 13 = .ok (.istore 4, 2) := by decide +kernel
theorem dX8_match_15 : decode cX8_match 15 = .ok (.iload 4, 2) := by decide +kernel
theorem dX8_match_17 : decode cX8_match 17 = .ok (.aload_n 0, 1) := by decide +kernel
theorem dX8_match_18 : decode cX8_match 18 = .ok (.getfield 16, 3) := by decide +kernel
theorem dX8_match_21 : decode cX8_match 21 = .ok (.getfield 122, 3) := by decide +kernel
theorem dX8_match_24 : decode cX8_match 24 = .ok (.if_icmp .ge 33, 3) := by decide +kernel
theorem dX8_match_27 : decode cX8_match 27 = .ok (.aload_n 0, 1) := by decide +kernel
theorem dX8_match_28 : decode cX8_match 28 = .ok (.getfield 76, 3) := by decide +kernel
theorem dX8_match_31 : decode cX8_match 31 = .ok (.iload 4, 2) := by decide +kernel
theorem dX8_match_33 : decode cX8_match 33 = .ok (.baload, 1) := by decide +kernel
theorem dX8_match_34 : decode cX8_match 34 = .ok (.ifCond .ne 6, 3) := by decide +kernel
theorem dX8_match_37 : decode cX8_match 37 = .ok (.goto 14, 3) := by decide +kernel
theorem dX8_match_40 : decode cX8_match 40 = .ok (.iload_n 3, 1) := by decide +kernel
theorem dX8_match_41 : decode cX8_match 41 = .ok (.iload_n 1, 1) := by decide +kernel
theorem dX8_match_42 : decode cX8_match 42 = .ok (.if_icmp .ne 6, 3) := by decide +kernel
theorem dX8_match_45 : decode cX8_match 45 = .ok (.iload 4, 2) := by decide +kernel
theorem dX8_match_47 : decode cX8_match 47 = .ok (.ireturn, 1) := by decide +kernel
theorem dX8_match_48 : decode cX8_match 48 = .ok (.iinc 3 1, 3) := by decide +kernel
theorem dX8_match_51 : decode cX8_match 51 = .ok (.iinc 4 1, 3) := by decide +kernel
theorem dX8_match_54 : decode cX8_match 54 = .ok (.goto (-39), 3) := by decide +kernel
theorem dX8_match_57 : decode cX8_match 57 = .ok (.iconst (-1), 1) := by decide +kernel
theorem dX8_match_58 : decode cX8_match 58 = .ok (.ireturn, 1) := by decide +kernel
theorem dX8_kindOf_0 : decode cX8_kindOf 0 = .ok (.iconst 0, 1) := by decide +kernel
theorem dX8_kindOf_1 : decode cX8_kindOf 1 = .ok (.istore_n 3, 1) := by decide +kernel
theorem dX8_kindOf_2 : decode cX8_kindOf 2 = .ok (.iload_n 3, 1) := by decide +kernel
theorem dX8_kindOf_3 : decode cX8_kindOf 3 = .ok (.aload_n 1, 1) := by decide +kernel
theorem dX8_kindOf_4 : decode cX8_kindOf 4 = .ok (.getfield 122, 3) := by decide +kernel
theorem dX8_kindOf_7 : decode cX8_kindOf 7 = .ok (.if_icmp .ge 26, 3) := by decide +kernel
theorem dX8_kindOf_10 : decode cX8_kindOf 10 = .ok (.aload_n 1, 1) := by decide +kernel
theorem dX8_kindOf_11 : decode cX8_kindOf 11 = .ok (.getfield 140, 3) := by decide +kernel
theorem dX8_kindOf_14 : decode cX8_kindOf 14 = .ok (.iload_n 3, 1) := by decide +kernel
theorem dX8_kindOf_15 : decode cX8_kindOf 15 = .ok (.iaload, 1) := by decide +kernel
theorem dX8_kindOf_16 : decode cX8_kindOf 16 = .ok (.iload_n 2, 1) := by decide +kernel
theorem dX8_kindOf_17 : decode cX8_kindOf 17 = .ok (.if_icmp .ne 10, 3) := by decide +kernel
theorem dX8_kindOf_20 : decode cX8_kindOf 20 = .ok (.aload_n 1, 1) := by decide +kernel
theorem dX8_kindOf_21 : decode cX8_kindOf 21 = .ok (.getfield 125, 3) := by decide +kernel
theorem dX8_kindOf_24 : decode cX8_kindOf 24 = .ok (.iload_n 3, 1) := by decide +kernel
theorem dX8_kindOf_25 : decode cX8_kindOf 25 = .ok (.iaload, 1) := by decide +kernel
theorem dX8_kindOf_26 : decode cX8_kindOf 26 = .ok (.ireturn, 1) := by decide +kernel
theorem dX8_kindOf_27 : decode cX8_kindOf 27 = .ok (.iinc 3 1, 3) := by decide +kernel
theorem dX8_kindOf_30 : decode cX8_kindOf 30 = .ok (.goto (-28), 3) := by decide +kernel
theorem dX8_kindOf_33 : decode cX8_kindOf 33 = .ok (.iconst (-1), 1) := by decide +kernel
theorem dX8_kindOf_34 : decode cX8_kindOf 34 = .ok (.ireturn, 1) := by decide +kernel
theorem dX8_hole_0 : decode cX8_hole 0 = .ok (.aload_n 0, 1) := by decide +kernel
theorem dX8_hole_1 : decode cX8_hole 1 = .ok (.iconst 0, 1) := by decide +kernel
theorem dX8_hole_2 : decode cX8_hole 2 = .ok (.putfield 103, 3) := by decide +kernel
theorem dX8_hole_5 : decode cX8_hole 5 = .ok (.aload_n 0, 1) := by decide +kernel
theorem dX8_hole_6 : decode cX8_hole 6 = .ok (.iload_n 1, 1) := by decide +kernel
theorem dX8_hole_7 : decode cX8_hole 7 = .ok (.invokevirtual 224, 3) := by decide +kernel
theorem dX8_hole_10 : decode cX8_hole 10 = .ok (.ifCond .eq 34, 3) := by decide +kernel
theorem dX8_hole_13 : decode cX8_hole 13 = .ok (.iload_n 2, 1) := by decide +kernel
theorem dX8_hole_14 : decode cX8_hole 14 = .ok (.iconst 0, 1) := by decide +kernel
theorem dX8_hole_15 : decode cX8_hole 15 = .ok (.bipush 25, 2) := by decide +kernel
theorem dX8_hole_17 : decode cX8_hole 17 = .ok (.invokestatic 202, 3) := by decide +kernel
theorem dX8_hole_20 : decode cX8_hole 20 = .ok (.ifCond .eq 24, 3) := by decide +kernel
theorem dX8_hole_23 : decode cX8_hole 23 = .ok (.aload_n 0, 1) := by decide +kernel
theorem dX8_hole_24 : decode cX8_hole 24 = .ok (.aload_n 0, 1) := by decide +kernel
theorem dX8_hole_25 : decode cX8_hole 25 = .ok (.getfield 20, 3) := by decide +kernel
theorem dX8_hole_28 : decode cX8_hole 28 = .ok (.iload_n 2, 1) := by decide +kernel
theorem dX8_hole_29 : decode cX8_hole 29 = .ok (.invokevirtual 259, 3) := by decide +kernel
theorem dX8_hole_32 : decode cX8_hole 32 = .ok (.iconst (-1), 1) := by decide +kernel
theorem dX8_hole_33 : decode cX8_hole 33 = .ok (.if_icmp .eq 11, 3) := by decide +kernel
theorem dX8_hole_36 : decode cX8_hole 36 = .ok (.aload_n 0, 1) := by decide +kernel
theorem dX8_hole_37 : decode cX8_hole 37 = .ok (.iload_n 1, 1) := by decide +kernel
theorem dX8_hole_38 : decode cX8_hole 38 = .ok (.invokevirtual 253, 3) := by decide +kernel
theorem dX8_hole_41 : decode cX8_hole 41 = .ok (.ifCond .ne 5, 3) := by decide +kernel
theorem dX8_hole_44 : decode cX8_hole 44 = .ok (.iconst (-1), 1) := by decide +kernel
theorem dX8_hole_45 : decode cX8_hole 45 = .ok (.ireturn, 1) := by decide +kernel
theorem dX8_hole_46 : decode cX8_hole 46 = .ok (.aload_n 0, 1) := by decide +kernel
theorem dX8_hole_47 : decode cX8_hole 47 = .ok (.aload_n 0, 1) := by decide +kernel
theorem dX8_hole_48 : decode cX8_hole 48 = .ok (.getfield 20, 3) := by decide +kernel
theorem dX8_hole_51 : decode cX8_hole 51 = .ok (.iload_n 2, 1) := by decide +kernel
theorem dX8_hole_52 : decode cX8_hole 52 = .ok (.invokevirtual 259, 3) := by decide +kernel
theorem dX8_hole_55 : decode cX8_hole 55 = .ok (.iconst 1, 1) := by decide +kernel
theorem dX8_hole_56 : decode cX8_hole 56 = .ok (.if_icmp .ne 12, 3) := by decide +kernel
theorem dX8_hole_59 : decode cX8_hole 59 = .ok (.aload_n 0, 1) := by decide +kernel
theorem dX8_hole_60 : decode cX8_hole 60 = .ok (.getfield 61, 3) := by decide +kernel
theorem dX8_hole_63 : decode cX8_hole 63 = .ok (.iload_n 2, 1) := by decide +kernel
theorem dX8_hole_64 : decode cX8_hole 64 = .ok (.iaload, 1) := by decide +kernel
theorem dX8_hole_65 : decode cX8_hole 65 = .ok (.goto 22, 3) := by decide +kernel
theorem dX8_hole_68 : decode cX8_hole 68 = .ok (.aload_n 0, 1) := by decide +kernel
theorem dX8_hole_69 : decode cX8_hole 69 = .ok (.getfield 67, 3) := by decide +kernel
theorem dX8_hole_72 : decode cX8_hole 72 = .ok (.iload_n 2, 1) := by decide +kernel
theorem dX8_hole_73 : decode cX8_hole 73 = .ok (.iaload, 1) := by decide +kernel
theorem dX8_hole_74 : decode cX8_hole 74 = .ok (.ifCond .ne 7, 3) := by decide +kernel
theorem dX8_hole_77 : decode cX8_hole 77 = .ok (.iconst (-1), 1) := by decide +kernel
theorem dX8_hole_78 : decode cX8_hole 78 = .ok (.goto 9, 3) := by decide +kernel
theorem dX8_hole_81 : decode cX8_hole 81 = .ok (.aload_n 0, 1) := by decide +kernel
theorem dX8_hole_82 : decode cX8_hole 82 = .ok (.getfield 64, 3) := by decide +kernel
theorem dX8_hole_85 : decode cX8_hole 85 = .ok (.iload_n 2, 1) := by decide +kernel
theorem dX8_hole_86 : decode cX8_hole 86 = .ok (.iaload, 1) := by decide +kernel
theorem dX8_hole_87 : decode cX8_hole 87 = .ok (.ireturn, 1) := by decide +kernel
theorem dX8_row_0 : decode cX8_row 0 = .ok (.aload_n 0, 1) := by decide +kernel
theorem dX8_row_1 : decode cX8_row 1 = .ok (.iconst 0, 1) := by decide +kernel
theorem dX8_row_2 : decode cX8_row 2 = .ok (.putfield 103, 3) := by decide +kernel
theorem dX8_row_5 : decode cX8_row 5 = .ok (.aload_n 0, 1) := by decide +kernel
theorem dX8_row_6 : decode cX8_row 6 = .ok (.iload_n 1, 1) := by decide +kernel
theorem dX8_row_7 : decode cX8_row 7 = .ok (.invokevirtual 224, 3) := by decide +kernel
theorem dX8_row_10 : decode cX8_row 10 = .ok (.ifCond .eq 34, 3) := by decide +kernel
theorem dX8_row_13 : decode cX8_row 13 = .ok (.iload_n 2, 1) := by decide +kernel
theorem dX8_row_14 : decode cX8_row 14 = .ok (.iconst 0, 1) := by decide +kernel
theorem dX8_row_15 : decode cX8_row 15 = .ok (.bipush 25, 2) := by decide +kernel
theorem dX8_row_17 : decode cX8_row 17 = .ok (.invokestatic 202, 3) := by decide +kernel
theorem dX8_row_20 : decode cX8_row 20 = .ok (.ifCond .eq 24, 3) := by decide +kernel
theorem dX8_row_23 : decode cX8_row 23 = .ok (.aload_n 0, 1) := by decide +kernel
theorem dX8_row_24 : decode cX8_row 24 = .ok (.aload_n 0, 1) := by decide +kernel
theorem dX8_row_25 : decode cX8_row 25 = .ok (.getfield 20, 3) := by decide +kernel
theorem dX8_row_28 : decode cX8_row 28 = .ok (.iload_n 2, 1) := by decide +kernel
theorem dX8_row_29 : decode cX8_row 29 = .ok (.invokevirtual 259, 3) := by decide +kernel
theorem dX8_row_32 : decode cX8_row 32 = .ok (.iconst (-1), 1) := by decide +kernel
theorem dX8_row_33 : decode cX8_row 33 = .ok (.if_icmp .eq 11, 3) := by decide +kernel
theorem dX8_row_36 : decode cX8_row 36 = .ok (.aload_n 0, 1) := by decide +kernel
theorem dX8_row_37 : decode cX8_row 37 = .ok (.iload_n 1, 1) := by decide +kernel
theorem dX8_row_38 : decode cX8_row 38 = .ok (.invokevirtual 253, 3) := by decide +kernel
theorem dX8_row_41 : decode cX8_row 41 = .ok (.ifCond .ne 5, 3) := by decide +kernel
theorem dX8_row_44 : decode cX8_row 44 = .ok (.iconst (-1), 1) := by decide +kernel
theorem dX8_row_45 : decode cX8_row 45 = .ok (.ireturn, 1) := by decide +kernel
theorem dX8_row_46 : decode cX8_row 46 = .ok (.aload_n 0, 1) := by decide +kernel
theorem dX8_row_47 : decode cX8_row 47 = .ok (.aload_n 0, 1) := by decide +kernel
theorem dX8_row_48 : decode cX8_row 48 = .ok (.getfield 20, 3) := by decide +kernel
theorem dX8_row_51 : decode cX8_row 51 = .ok (.iload_n 2, 1) := by decide +kernel
theorem dX8_row_52 : decode cX8_row 52 = .ok (.invokevirtual 259, 3) := by decide +kernel
theorem dX8_row_55 : decode cX8_row 55 = .ok (.iconst 1, 1) := by decide +kernel
theorem dX8_row_56 : decode cX8_row 56 = .ok (.if_icmp .ne 7, 3) := by decide +kernel
theorem dX8_row_59 : decode cX8_row 59 = .ok (.iconst 1, 1) := by decide +kernel
theorem dX8_row_60 : decode cX8_row 60 = .ok (.goto 9, 3) := by decide +kernel
theorem dX8_row_63 : decode cX8_row 63 = .ok (.aload_n 0, 1) := by decide +kernel
theorem dX8_row_64 : decode cX8_row 64 = .ok (.getfield 67, 3) := by decide +kernel
theorem dX8_row_67 : decode cX8_row 67 = .ok (.iload_n 2, 1) := by decide +kernel
theorem dX8_row_68 : decode cX8_row 68 = .ok (.iaload, 1) := by decide +kernel
theorem dX8_row_69 : decode cX8_row 69 = .ok (.ireturn, 1) := by decide +kernel
theorem dX8_takeBy_0 : decode cX8_takeBy 0 = .ok (.aload_n 0, 1) := by decide +kernel
theorem dX8_takeBy_1 : decode cX8_takeBy 1 = .ok (.invokevirtual 256, 3) := by decide +kernel
theorem dX8_takeBy_4 : decode cX8_takeBy 4 = .ok (.istore_n 2, 1) := by decide +kernel
theorem dX8_takeBy_5 : decode cX8_takeBy 5 = .ok (.iconst 0, 1) := by decide +kernel
theorem dX8_takeBy_6 : decode cX8_takeBy 6 = .ok (.istore_n 3, 1) := by decide +kernel
theorem dX8_takeBy_7 : decode cX8_takeBy 7 = .ok (.iload_n 3, 1) := by decide +kernel
theorem dX8_takeBy_8 : decode cX8_takeBy 8 = .ok (.aload_n 0, 1) := by decide +kernel
theorem dX8_takeBy_9 : decode cX8_takeBy 9 = .ok (.getfield 16, 3) := by decide +kernel
theorem dX8_takeBy_12 : decode cX8_takeBy 12 = .ok (.getfield 122, 3) := by decide +kernel
theorem dX8_takeBy_15 : decode cX8_takeBy 15 = .ok (.if_icmp .ge 16, 3) := by decide +kernel
theorem dX8_takeBy_18 : decode cX8_takeBy 18 = .ok (.aload_n 0, 1) := by decide +kernel
theorem dX8_takeBy_19 : decode cX8_takeBy 19 = .ok (.getfield 79, 3) := by decide +kernel
theorem dX8_takeBy_22 : decode cX8_takeBy 22 = .ok (.iload_n 3, 1) := by decide +kernel
theorem dX8_takeBy_23 : decode cX8_takeBy 23 = .ok (.iconst 0, 1) := by decide +kernel
theorem dX8_takeBy_24 : decode cX8_takeBy 24 = .ok (.bastore, 1) := by decide +kernel
theorem dX8_takeBy_25 : decode cX8_takeBy 25 = .ok (.iinc 3 1, 3) := by decide +kernel
theorem dX8_takeBy_28 : decode cX8_takeBy 28 = .ok (.goto (-21), 3) := by decide +kernel
theorem dX8_takeBy_31 : decode cX8_takeBy 31 = .ok (.iload_n 1, 1) := by decide +kernel
theorem dX8_takeBy_32 : decode cX8_takeBy 32 = .ok (.iconst 2, 1) := by decide +kernel
theorem dX8_takeBy_33 : decode cX8_takeBy 33 = .ok (.if_icmp .ge 132, 3) := by decide +kernel
theorem dX8_takeBy_36 : decode cX8_takeBy 36 = .ok (.iconst 0, 1) := by decide +kernel
theorem dX8_takeBy_37 : decode cX8_takeBy 37 = .ok (.istore_n 3, 1) := by decide +kernel
theorem dX8_takeBy_38 : decode cX8_takeBy 38 = .ok (.iload_n 3, 1) := by decide +kernel
theorem dX8_takeBy_39 : decode cX8_takeBy 39 = .ok (.aload_n 0, 1) := by decide +kernel
theorem dX8_takeBy_40 : decode cX8_takeBy 40 = .ok (.getfield 16, 3) := by decide +kernel
theorem dX8_takeBy_43 : decode cX8_takeBy 43 = .ok (.getfield 122, 3) := by decide +kernel
theorem dX8_takeBy_46 : decode cX8_takeBy 46 = .ok (.if_icmp .ge 116, 3) := by decide +kernel
theorem dX8_takeBy_49 : decode cX8_takeBy 49 = .ok (.aload_n 0, 1) := by decide +kernel
theorem dX8_takeBy_50 : decode cX8_takeBy 50 = .ok (.getfield 76, 3) := by decide +kernel
theorem dX8_takeBy_53 : decode cX8_takeBy 53 = .ok (.iload_n 3, 1) := by decide +kernel
theorem dX8_takeBy_54 : decode cX8_takeBy 54 = .ok (.baload, 1) := by decide +kernel
theorem dX8_takeBy_55 : decode cX8_takeBy 55 = .ok (.ifCond .ne 6, 3) := by decide +kernel
theorem dX8_takeBy_58 : decode cX8_takeBy 58 = .ok (.goto 98, 3) := by decide +kernel
theorem dX8_takeBy_61 : decode cX8_takeBy 61 = .ok (.iconst 0, 1) := by decide +kernel
theorem dX8_takeBy_62 : decode cX8_takeBy 62 = .ok (.istore 4, 2) := by decide +kernel
theorem dX8_takeBy_64 : decode cX8_takeBy 64 = .ok (.iconst 0, 1) := by decide +kernel
theorem dX8_takeBy_65 : decode cX8_takeBy 65 = .ok (.istore 5, 2) := by decide +kernel
theorem dX8_takeBy_67 : decode cX8_takeBy 67 = .ok (.iload 5, 2) := by decide +kernel
theorem dX8_takeBy_69 : decode cX8_takeBy 69 = .ok (.aload_n 0, 1) := by decide +kernel
theorem dX8_takeBy_70 : decode cX8_takeBy 70 = .ok (.getfield 16, 3) := by decide +kernel
theorem dX8_takeBy_73 : decode cX8_takeBy 73 = .ok (.getfield 122, 3) := by decide +kernel
theorem dX8_takeBy_76 : decode cX8_takeBy 76 = .ok (.if_icmp .ge 64, 3) := by decide +kernel
theorem dX8_takeBy_79 : decode cX8_takeBy 79 = .ok (.iload 4, 2) := by decide +kernel
theorem dX8_takeBy_81 : decode cX8_takeBy 81 = .ok (.ifCond .ne 46, 3) := by decide +kernel
theorem dX8_takeBy_84 : decode cX8_takeBy 84 = .ok (.iload 5, 2) := by decide +kernel
theorem dX8_takeBy_86 : decode cX8_takeBy 86 = .ok (.iload_n 3, 1) := by decide +kernel
theorem dX8_takeBy_87 : decode cX8_takeBy 87 = .ok (.if_icmp .eq 44, 3) := by decide +kernel
theorem dX8_takeBy_90 : decode cX8_takeBy 90 = .ok (.aload_n 0, 1) := by decide +kernel
theorem dX8_takeBy_91 : decode cX8_takeBy 91 = .ok (.getfield 76, 3) := by decide +kernel
theorem dX8_takeBy_94 : decode cX8_takeBy 94 = .ok (.iload 5, 2) := by decide +kernel
theorem dX8_takeBy_96 : decode cX8_takeBy 96 = .ok (.baload, 1) := by decide +kernel
theorem dX8_takeBy_97 : decode cX8_takeBy 97 = .ok (.ifCond .eq 34, 3) := by decide +kernel
theorem dX8_takeBy_100 : decode cX8_takeBy 100 = .ok (.iload_n 1, 1) := by decide +kernel
theorem dX8_takeBy_101 : decode cX8_takeBy 101 = .ok (.ifCond .ne 16, 3) := by decide +kernel
theorem dX8_takeBy_104 : decode cX8_takeBy 104 = .ok (.aload_n 0, 1) := by decide +kernel
theorem dX8_takeBy_105 : decode cX8_takeBy 105 = .ok (.iload_n 3, 1) := by decide +kernel
theorem dX8_takeBy_106 : decode cX8_takeBy 106 = .ok (.iload 5, 2) := by decide +kernel
theorem dX8_takeBy_108 : decode cX8_takeBy 108 = .ok (.invokevirtual 246, 3) := by decide +kernel
theorem dX8_takeBy_111 : decode cX8_takeBy 111 = .ok (.ifCond .eq 20, 3) := by decide +kernel
theorem dX8_takeBy_114 : decode cX8_takeBy 114 = .ok (.goto 13, 3) := by decide +kernel
theorem dX8_takeBy_117 : decode cX8_takeBy 117 = .ok (.aload_n 0, 1) := by decide +kernel
theorem dX8_takeBy_118 : decode cX8_takeBy 118 = .ok (.iload 5, 2) := by decide +kernel
theorem dX8_takeBy_120 : decode cX8_takeBy 120 = .ok (.iload_n 3, 1) := by decide +kernel
theorem dX8_takeBy_121 : decode cX8_takeBy 121 = .ok (.invokevirtual 246, 3) := by decide +kernel
theorem dX8_takeBy_124 : decode cX8_takeBy 124 = .ok (.ifCond .eq 7, 3) := by decide +kernel
theorem dX8_takeBy_127 : decode cX8_takeBy 127 = .ok (.iconst 1, 1) := by decide +kernel
theorem dX8_takeBy_128 : decode cX8_takeBy 128 = .ok (.goto 4, 3) := by decide +kernel
theorem dX8_takeBy_131 : decode cX8_takeBy 131 = .ok (.iconst 0, 1) := by decide +kernel
theorem dX8_takeBy_132 : decode cX8_takeBy 132 = .ok (.istore 4, 2) := by decide +kernel
theorem dX8_takeBy_134 : decode cX8_takeBy 134 = .ok (.iinc 5 1, 3) := by decide +kernel
theorem dX8_takeBy_137 : decode cX8_takeBy 137 = .ok (.goto (-70), 3) := by decide +kernel
theorem dX8_takeBy_140 : decode cX8_takeBy 140 = .ok (.aload_n 0, 1) := by decide +kernel
theorem dX8_takeBy_141 : decode cX8_takeBy 141 = .ok (.getfield 79, 3) := by decide +kernel
theorem dX8_takeBy_144 : decode cX8_takeBy 144 = .ok (.iload_n 3, 1) := by decide +kernel
theorem dX8_takeBy_145 : decode cX8_takeBy 145 = .ok (.iload 4, 2) := by decide +kernel
theorem dX8_takeBy_147 : decode cX8_takeBy 147 = .ok (.ifCond .ne 7, 3) := by decide +kernel
theorem dX8_takeBy_150 : decode cX8_takeBy 150 = .ok (.iconst 1, 1) := by decide +kernel
theorem dX8_takeBy_151 : decode cX8_takeBy 151 = .ok (.goto 4, 3) := by decide +kernel
theorem dX8_takeBy_154 : decode cX8_takeBy 154 = .ok (.iconst 0, 1) := by decide +kernel
theorem dX8_takeBy_155 : decode cX8_takeBy 155 = .ok (.bastore, 1) := by decide +kernel
theorem dX8_takeBy_156 : decode cX8_takeBy 156 = .ok (.iinc 3 1, 3) := by decide +kernel
theorem dX8_takeBy_159 : decode cX8_takeBy 159 = .ok (.goto (-121), 3) := by decide +kernel
theorem dX8_takeBy_162 : decode cX8_takeBy 162 = .ok (.goto 151, 3) := by decide +kernel
theorem dX8_takeBy_165 : decode cX8_takeBy 165 = .ok (.aload_n 0, 1) := by decide +kernel
theorem dX8_takeBy_166 : decode cX8_takeBy 166 = .ok (.getfield 16, 3) := by decide +kernel
theorem dX8_takeBy_169 : decode cX8_takeBy 169 = .ok (.getfield 122, 3) := by decide +kernel
theorem dX8_takeBy_172 : decode cX8_takeBy 172 = .ok (.iconst 1, 1) := by decide +kernel
theorem dX8_takeBy_173 : decode cX8_takeBy 173 = .ok (.isub, 1) := by decide +kernel
theorem dX8_takeBy_174 : decode cX8_takeBy 174 = .ok (.istore_n 3, 1) := by decide +kernel
theorem dX8_takeBy_175 : decode cX8_takeBy 175 = .ok (.iload_n 3, 1) := by decide +kernel
theorem dX8_takeBy_176 : decode cX8_takeBy 176 = .ok (.ifCond .lt 137, 3) := by decide +kernel
theorem dX8_takeBy_179 : decode cX8_takeBy 179 = .ok (.aload_n 0, 1) := by decide +kernel
theorem dX8_takeBy_180 : decode cX8_takeBy 180 = .ok (.getfield 82, 3) := by decide +kernel
theorem dX8_takeBy_183 : decode cX8_takeBy 183 = .ok (.iload_n 3, 1) := by decide +kernel
theorem dX8_takeBy_184 : decode cX8_takeBy 184 = .ok (.iconst 0, 1) := by decide +kernel
theorem dX8_takeBy_185 : decode cX8_takeBy 185 = .ok (.iastore, 1) := by decide +kernel
theorem dX8_takeBy_186 : decode cX8_takeBy 186 = .ok (.iconst 0, 1) := by decide +kernel
theorem dX8_takeBy_187 : decode cX8_takeBy 187 = .ok (.istore 4, 2) := by decide +kernel
theorem dX8_takeBy_189 : decode cX8_takeBy 189 = .ok (.iload 4, 2) := by decide +kernel
theorem dX8_takeBy_191 : decode cX8_takeBy 191 = .ok (.aload_n 0, 1) := by decide +kernel
theorem dX8_takeBy_192 : decode cX8_takeBy 192 = .ok (.getfield 16, 3) := by decide +kernel
theorem dX8_takeBy_195 : decode cX8_takeBy 195 = .ok (.getfield 134, 3) := by decide +kernel
theorem dX8_takeBy_198 : decode cX8_takeBy 198 = .ok (.iload_n 3, 1) := by decide +kernel
theorem dX8_takeBy_199 : decode cX8_takeBy 199 = .ok (.iaload, 1) := by decide +kernel
theorem dX8_takeBy_200 : decode cX8_takeBy 200 = .ok (.if_icmp .ge 33, 3) := by decide +kernel
theorem dX8_takeBy_203 : decode cX8_takeBy 203 = .ok (.aload_n 0, 1) := by decide +kernel
theorem dX8_takeBy_204 : decode cX8_takeBy 204 = .ok (.getfield 82, 3) := by decide +kernel
theorem dX8_takeBy_207 : decode cX8_takeBy 207 = .ok (.iload_n 3, 1) := by decide +kernel
theorem dX8_takeBy_208 : decode cX8_takeBy 208 = .ok (.dup2, 1) := by decide +kernel
theorem dX8_takeBy_209 : decode cX8_takeBy 209 = .ok (.iaload, 1) := by decide +kernel
theorem dX8_takeBy_210 : decode cX8_takeBy 210 = .ok (.aload_n 0, 1) := by decide +kernel
theorem dX8_takeBy_211 : decode cX8_takeBy 211 = .ok (.getfield 82, 3) := by decide +kernel
theorem dX8_takeBy_214 : decode cX8_takeBy 214 = .ok (.aload_n 0, 1) := by decide +kernel
theorem dX8_takeBy_215 : decode cX8_takeBy 215 = .ok (.getfield 16, 3) := by decide +kernel
theorem dX8_takeBy_218 : decode cX8_takeBy 218 = .ok (.iload_n 3, 1) := by decide +kernel
theorem dX8_takeBy_219 : decode cX8_takeBy 219 = .ok (.iload 4, 2) := by decide +kernel
theorem dX8_takeBy_221 : decode cX8_takeBy 221 = .ok (.invokevirtual 219, 3) := by decide +kernel
theorem dX8_takeBy_224 : decode cX8_takeBy 224 = .ok (.iaload, 1) := by decide +kernel
theorem dX8_takeBy_225 : decode cX8_takeBy 225 = .ok (.iadd, 1) := by decide +kernel
theorem dX8_takeBy_226 : decode cX8_takeBy 226 = .ok (.iastore, 1) := by decide +kernel
theorem dX8_takeBy_227 : decode cX8_takeBy 227 = .ok (.iinc 4 1, 3) := by decide +kernel
theorem dX8_takeBy_230 : decode cX8_takeBy 230 = .ok (.goto (-41), 3) := by decide +kernel
theorem dX8_takeBy_233 : decode cX8_takeBy 233 = .ok (.aload_n 0, 1) := by decide +kernel
theorem dX8_takeBy_234 : decode cX8_takeBy 234 = .ok (.getfield 76, 3) := by decide +kernel
theorem dX8_takeBy_237 : decode cX8_takeBy 237 = .ok (.iload_n 3, 1) := by decide +kernel
theorem dX8_takeBy_238 : decode cX8_takeBy 238 = .ok (.baload, 1) := by decide +kernel
theorem dX8_takeBy_239 : decode cX8_takeBy 239 = .ok (.ifCond .eq 68, 3) := by decide +kernel
theorem dX8_takeBy_242 : decode cX8_takeBy 242 = .ok (.aload_n 0, 1) := by decide +kernel
theorem dX8_takeBy_243 : decode cX8_takeBy 243 = .ok (.getfield 82, 3) := by decide +kernel
theorem dX8_takeBy_246 : decode cX8_takeBy 246 = .ok (.iload_n 3, 1) := by decide +kernel
theorem dX8_takeBy_247 : decode cX8_takeBy 247 = .ok (.iaload, 1) := by decide +kernel
theorem dX8_takeBy_248 : decode cX8_takeBy 248 = .ok (.iconst 1, 1) := by decide +kernel
theorem dX8_takeBy_249 : decode cX8_takeBy 249 = .ok (.if_icmp .gt 58, 3) := by decide +kernel
theorem dX8_takeBy_252 : decode cX8_takeBy 252 = .ok (.aload_n 0, 1) := by decide +kernel
theorem dX8_takeBy_253 : decode cX8_takeBy 253 = .ok (.getfield 82, 3) := by decide +kernel
theorem dX8_takeBy_256 : decode cX8_takeBy 256 = .ok (.iload_n 3, 1) := by decide +kernel
theorem dX8_takeBy_257 : decode cX8_takeBy 257 = .ok (.iconst 1, 1) := by decide +kernel
theorem dX8_takeBy_258 : decode cX8_takeBy 258 = .ok (.iastore, 1) := by decide +kernel
theorem dX8_takeBy_259 : decode cX8_takeBy 259 = .ok (.iload_n 3, 1) := by decide +kernel
theorem dX8_takeBy_260 : decode cX8_takeBy 260 = .ok (.iconst 1, 1) := by decide +kernel
theorem dX8_takeBy_261 : decode cX8_takeBy 261 = .ok (.iadd, 1) := by decide +kernel
theorem dX8_takeBy_262 : decode cX8_takeBy 262 = .ok (.istore 4, 2) := by decide +kernel
theorem dX8_takeBy_264 : decode cX8_takeBy 264 = .ok (.iload 4, 2) := by decide +kernel
theorem dX8_takeBy_266 : decode cX8_takeBy 266 = .ok (.aload_n 0, 1) := by decide +kernel
theorem dX8_takeBy_267 : decode cX8_takeBy 267 = .ok (.getfield 16, 3) := by decide +kernel
theorem dX8_takeBy_270 : decode cX8_takeBy 270 = .ok (.getfield 122, 3) := by decide +kernel
theorem dX8_takeBy_273 : decode cX8_takeBy 273 = .ok (.if_icmp .ge 27, 3) := by decide +kernel
theorem dX8_takeBy_276 : decode cX8_takeBy 276 = .ok (.aload_n 0, 1) := by decide +kernel
theorem dX8_takeBy_277 : decode cX8_takeBy 277 = .ok (.iload 4, 2) := by decide +kernel
theorem dX8_takeBy_279 : decode cX8_takeBy 279 = .ok (.iload_n 3, 1) := by decide +kernel
theorem dX8_takeBy_280 : decode cX8_takeBy 280 = .ok (.invokevirtual 246, 3) := by decide +kernel
theorem dX8_takeBy_283 : decode cX8_takeBy 283 = .ok (.ifCond .eq 17, 3) := by decide +kernel
theorem dX8_takeBy_286 : decode cX8_takeBy 286 = .ok (.aload_n 0, 1) := by decide +kernel
theorem dX8_takeBy_287 : decode cX8_takeBy 287 = .ok (.getfield 79, 3) := by decide +kernel
theorem dX8_takeBy_290 : decode cX8_takeBy 290 = .ok (.iload 4, 2) := by decide +kernel
theorem dX8_takeBy_292 : decode cX8_takeBy 292 = .ok (.iconst 0, 1) := by decide +kernel
theorem dX8_takeBy_293 : decode cX8_takeBy 293 = .ok (.bastore, 1) := by decide +kernel
theorem dX8_takeBy_294 : decode cX8_takeBy 294 = .ok (.iinc 4 1, 3) := by decide +kernel
theorem dX8_takeBy_297 : decode cX8_takeBy 297 = .ok (.goto (-33), 3) := by decide +kernel
theorem dX8_takeBy_300 : decode cX8_takeBy 300 = .ok (.aload_n 0, 1) := by decide +kernel
theorem dX8_takeBy_301 : decode cX8_takeBy 301 = .ok (.getfield 79, 3) := by decide +kernel
theorem dX8_takeBy_304 : decode cX8_takeBy 304 = .ok (.iload_n 3, 1) := by decide +kernel
theorem dX8_takeBy_305 : decode cX8_takeBy 305 = .ok (.iconst 1, 1) := by decide +kernel
theorem dX8_takeBy_306 : decode cX8_takeBy 306 = .ok (.bastore, 1) := by decide +kernel
theorem dX8_takeBy_307 : decode cX8_takeBy 307 = .ok (.iinc 3 (-1), 3) := by decide +kernel
theorem dX8_takeBy_310 : decode cX8_takeBy 310 = .ok (.goto (-135), 3) := by decide +kernel
theorem dX8_takeBy_313 : decode cX8_takeBy 313 = .ok (.iconst 0, 1) := by decide +kernel
theorem dX8_takeBy_314 : decode cX8_takeBy 314 = .ok (.istore_n 3, 1) := by decide +kernel
theorem dX8_takeBy_315 : decode cX8_takeBy 315 = .ok (.iconst 0, 1) := by decide +kernel
theorem dX8_takeBy_316 : decode cX8_takeBy 316 = .ok (.istore 4, 2) := by decide +kernel
theorem dX8_takeBy_318 : decode cX8_takeBy 318 = .ok (.iload 4, 2) := by decide +kernel
theorem dX8_takeBy_320 : decode cX8_takeBy 320 = .ok (.aload_n 0, 1) := by decide +kernel
theorem dX8_takeBy_321 : decode cX8_takeBy 321 = .ok (.getfield 16, 3) := by decide +kernel
theorem dX8_takeBy_324 : decode cX8_takeBy 324 = .ok (.getfield 122, 3) := by decide +kernel
theorem dX8_takeBy_327 : decode cX8_takeBy 327 = .ok (.if_icmp .ge 27, 3) := by decide +kernel
theorem dX8_takeBy_330 : decode cX8_takeBy 330 = .ok (.iload_n 3, 1) := by decide +kernel
theorem dX8_takeBy_331 : decode cX8_takeBy 331 = .ok (.aload_n 0, 1) := by decide +kernel
theorem dX8_takeBy_332 : decode cX8_takeBy 332 = .ok (.getfield 79, 3) := by decide +kernel
theorem dX8_takeBy_335 : decode cX8_takeBy 335 = .ok (.iload 4, 2) := by decide +kernel
theorem dX8_takeBy_337 : decode cX8_takeBy 337 = .ok (.baload, 1) := by decide +kernel
theorem dX8_takeBy_338 : decode cX8_takeBy 338 = .ok (.ifCond .eq 7, 3) := by decide +kernel
theorem dX8_takeBy_341 : decode cX8_takeBy 341 = .ok (.iconst 1, 1) := by decide +kernel
theorem dX8_takeBy_342 : decode cX8_takeBy 342 = .ok (.goto 4, 3) := by decide +kernel
theorem dX8_takeBy_345 : decode cX8_takeBy 345 = .ok (.iconst 0, 1) := by decide +kernel
theorem dX8_takeBy_346 : decode cX8_takeBy 346 = .ok (.iadd, 1) := by decide +kernel
theorem dX8_takeBy_347 : decode cX8_takeBy 347 = .ok (.istore_n 3, 1) := by decide +kernel
theorem dX8_takeBy_348 : decode cX8_takeBy 348 = .ok (.iinc 4 1, 3) := by decide +kernel
theorem dX8_takeBy_351 : decode cX8_takeBy 351 = .ok (.goto (-33), 3) := by decide +kernel
theorem dX8_takeBy_354 : decode cX8_takeBy 354 = .ok (.iload_n 3, 1) := by decide +kernel
theorem dX8_takeBy_355 : decode cX8_takeBy 355 = .ok (.ireturn, 1) := by decide +kernel
theorem dX8_taken_0 : decode cX8_taken 0 = .ok (.aload_n 0, 1) := by decide +kernel
theorem dX8_taken_1 : decode cX8_taken 1 = .ok (.iconst 0, 1) := by decide +kernel
theorem dX8_taken_2 : decode cX8_taken 2 = .ok (.putfield 103, 3) := by decide +kernel
theorem dX8_taken_5 : decode cX8_taken 5 = .ok (.iload_n 1, 1) := by decide +kernel
theorem dX8_taken_6 : decode cX8_taken 6 = .ok (.iconst 0, 1) := by decide +kernel
theorem dX8_taken_7 : decode cX8_taken 7 = .ok (.iconst 2, 1) := by decide +kernel
theorem dX8_taken_8 : decode cX8_taken 8 = .ok (.invokestatic 202, 3) := by decide +kernel
theorem dX8_taken_11 : decode cX8_taken 11 = .ok (.ifCond .eq 11, 3) := by decide +kernel
theorem dX8_taken_14 : decode cX8_taken 14 = .ok (.aload_n 0, 1) := by decide +kernel
theorem dX8_taken_15 : decode cX8_taken 15 = .ok (.iload_n 1, 1) := by decide +kernel
theorem dX8_taken_16 : decode cX8_taken 16 = .ok (.invokevirtual 263, 3) := by decide +kernel
theorem dX8_taken_19 : decode cX8_taken 19 = .ok (.goto 4, 3) := by decide +kernel
theorem dX8_taken_22 : decode cX8_taken 22 = .ok (.iconst (-1), 1) := by decide +kernel
theorem dX8_taken_23 : decode cX8_taken 23 = .ok (.ireturn, 1) := by decide +kernel
theorem dX8_takes_0 : decode cX8_takes 0 = .ok (.aload_n 0, 1) := by decide +kernel
theorem dX8_takes_1 : decode cX8_takes 1 = .ok (.iconst 0, 1) := by decide +kernel
theorem dX8_takes_2 : decode cX8_takes 2 = .ok (.putfield 103, 3) := by decide +kernel
theorem dX8_takes_5 : decode cX8_takes 5 = .ok (.iload_n 1, 1) := by decide +kernel
theorem dX8_takes_6 : decode cX8_takes 6 = .ok (.iconst 0, 1) := by decide +kernel
theorem dX8_takes_7 : decode cX8_takes 7 = .ok (.iconst 2, 1) := by decide +kernel
theorem dX8_takes_8 : decode cX8_takes 8 = .ok (.invokestatic 202, 3) := by decide +kernel
theorem dX8_takes_11 : decode cX8_takes 11 = .ok (.ifCond .ne 5, 3) := by decide +kernel
theorem dX8_takes_14 : decode cX8_takes 14 = .ok (.iconst (-1), 1) := by decide +kernel
theorem dX8_takes_15 : decode cX8_takes 15 = .ok (.ireturn, 1) := by decide +kernel
theorem dX8_takes_16 : decode cX8_takes 16 = .ok (.aload_n 0, 1) := by decide +kernel
theorem dX8_takes_17 : decode cX8_takes 17 = .ok (.iload_n 1, 1) := by decide +kernel
theorem dX8_takes_18 : decode cX8_takes 18 = .ok (.invokevirtual 263, 3) := by decide +kernel
theorem dX8_takes_21 : decode cX8_takes 21 = .ok (.istore_n 3, 1) := by decide +kernel
theorem dX8_takes_22 : decode cX8_takes 22 = .ok (.iconst 0, 1) := by decide +kernel
theorem dX8_takes_23 : decode cX8_takes 23 = .ok (.istore 4, 2) := by decide +kernel
theorem dX8_takes_25 : decode cX8_takes 25 = .ok (.iconst 0, 1) := by decide +kernel
theorem dX8_takes_26 : decode cX8_takes 26 = .ok (.istore 5, 2) := by decide +kernel
theorem dX8_takes_28 : decode cX8_takes 28 = .ok (.iload 5, 2) := by decide +kernel
theorem dX8_takes_30 : decode cX8_takes 30 = .ok (.aload_n 0, 1) := by decide +kernel
theorem dX8_takes_31 : decode cX8_takes 31 = .ok (.getfield 16, 3) := by decide +kernel
theorem dX8_takes_34 : decode cX8_takes 34 = .ok (.getfield 122, 3) := by decide +kernel
theorem dX8_takes_37 : decode cX8_takes 37 = .ok (.if_icmp .ge 34, 3) := by decide +kernel
theorem dX8_takes_40 : decode cX8_takes 40 = .ok (.aload_n 0, 1) := by decide +kernel
theorem dX8_takes_41 : decode cX8_takes 41 = .ok (.getfield 79, 3) := by decide +kernel
theorem dX8_takes_44 : decode cX8_takes 44 = .ok (.iload 5, 2) := by decide +kernel
theorem dX8_takes_46 : decode cX8_takes 46 = .ok (.baload, 1) := by decide +kernel
theorem dX8_takes_47 : decode cX8_takes 47 = .ok (.ifCond .ne 6, 3) := by decide +kernel
theorem dX8_takes_50 : decode cX8_takes 50 = .ok (.goto 15, 3) := by decide +kernel
theorem dX8_takes_53 : decode cX8_takes 53 = .ok (.iload 4, 2) := by decide +kernel
theorem dX8_takes_55 : decode cX8_takes 55 = .ok (.iload_n 2, 1) := by decide +kernel
theorem dX8_takes_56 : decode cX8_takes 56 = .ok (.if_icmp .ne 6, 3) := by decide +kernel
theorem dX8_takes_59 : decode cX8_takes 59 = .ok (.iload 5, 2) := by decide +kernel
theorem dX8_takes_61 : decode cX8_takes 61 = .ok (.ireturn, 1) := by decide +kernel
theorem dX8_takes_62 : decode cX8_takes 62 = .ok (.iinc 4 1, 3) := by decide +kernel
theorem dX8_takes_65 : decode cX8_takes 65 = .ok (.iinc 5 1, 3) := by decide +kernel
theorem dX8_takes_68 : decode cX8_takes 68 = .ok (.goto (-40), 3) := by decide +kernel
theorem dX8_takes_71 : decode cX8_takes 71 = .ok (.iconst (-1), 1) := by decide +kernel
theorem dX8_takes_72 : decode cX8_takes 72 = .ok (.ireturn, 1) := by decide +kernel
theorem dX8_copy_0 : decode cX8_copy 0 = .ok (.iload_n 2, 1) := by decide +kernel
theorem dX8_copy_1 : decode cX8_copy 1 = .ok (.istore 4, 2) := by decide +kernel
theorem dX8_copy_3 : decode cX8_copy 3 = .ok (.iload 4, 2) := by decide +kernel
theorem dX8_copy_5 : decode cX8_copy 5 = .ok (.iload_n 3, 1) := by decide +kernel
theorem dX8_copy_6 : decode cX8_copy 6 = .ok (.if_icmp .ge 47, 3) := by decide +kernel
theorem dX8_copy_9 : decode cX8_copy 9 = .ok (.aload_n 0, 1) := by decide +kernel
theorem dX8_copy_10 : decode cX8_copy 10 = .ok (.getfield 266, 3) := by decide +kernel
theorem dX8_copy_13 : decode cX8_copy 13 = .ok (.aload_n 0, 1) := by decide +kernel
theorem dX8_copy_14 : decode cX8_copy 14 = .ok (.getfield 86, 3) := by decide +kernel
theorem dX8_copy_17 : decode cX8_copy 17 = .ok (.arraylength, 1) := by decide +kernel
theorem dX8_copy_18 : decode cX8_copy 18 = .ok (.if_icmp .ge 35, 3) := by decide +kernel
theorem dX8_copy_21 : decode cX8_copy 21 = .ok (.aload_n 0, 1) := by decide +kernel
theorem dX8_copy_22 : decode cX8_copy 22 = .ok (.getfield 86, 3) := by decide +kernel
theorem dX8_copy_25 : decode cX8_copy 25 = .ok (.aload_n 0, 1) := by decide +kernel
theorem dX8_copy_26 : decode cX8_copy 26 = .ok (.getfield 266, 3) := by decide +kernel
theorem dX8_copy_29 : decode cX8_copy 29 = .ok (.aload_n 1, 1) := by decide +kernel
theorem dX8_copy_30 : decode cX8_copy 30 = .ok (.getfield 113, 3) := by decide +kernel
theorem dX8_copy_33 : decode cX8_copy 33 = .ok (.iload 4, 2) := by decide +kernel
theorem dX8_copy_35 : decode cX8_copy 35 = .ok (.baload, 1) := by decide +kernel
theorem dX8_copy_36 : decode cX8_copy 36 = .ok (.bastore, 1) := by decide +kernel
theorem dX8_copy_37 : decode cX8_copy 37 = .ok (.aload_n 0, 1) := by decide +kernel
theorem dX8_copy_38 : decode cX8_copy 38 = .ok (.dup, 1) := by decide +kernel
theorem dX8_copy_39 : decode cX8_copy 39 = .ok (.getfield 266, 3) := by decide +kernel
theorem dX8_copy_42 : decode cX8_copy 42 = .ok (.iconst 1, 1) := by decide +kernel
theorem dX8_copy_43 : decode cX8_copy 43 = .ok (.iadd, 1) := by decide +kernel
theorem dX8_copy_44 : decode cX8_copy 44 = .ok (.putfield 266, 3) := by decide +kernel
theorem dX8_copy_47 : decode cX8_copy 47 = .ok (.iinc 4 1, 3) := by decide +kernel
theorem dX8_copy_50 : decode cX8_copy 50 = .ok (.goto (-47), 3) := by decide +kernel
theorem dX8_copy_53 : decode cX8_copy 53 = .ok (.return_, 1) := by decide +kernel
theorem dX8_strike_0 : decode cX8_strike 0 = .ok (.iconst 0, 1) := by decide +kernel
theorem dX8_strike_1 : decode cX8_strike 1 = .ok (.istore_n 1, 1) := by decide +kernel
theorem dX8_strike_2 : decode cX8_strike 2 = .ok (.iload_n 1, 1) := by decide +kernel
theorem dX8_strike_3 : decode cX8_strike 3 = .ok (.aload_n 0, 1) := by decide +kernel
theorem dX8_strike_4 : decode cX8_strike 4 = .ok (.getfield 23, 3) := by decide +kernel
theorem dX8_strike_7 : decode cX8_strike 7 = .ok (.getfield 112, 3) := by decide +kernel
theorem dX8_strike_10 : decode cX8_strike 10 = .ok (.if_icmp .ge 16, 3) := by decide +kernel
theorem dX8_strike_13 : decode cX8_strike 13 = .ok (.aload_n 0, 1) := by decide +kernel
theorem dX8_strike_14 : decode cX8_strike 14 = .ok (.getfield 89, 3) := by decide +kernel
theorem dX8_strike_17 : decode cX8_strike 17 = .ok (.iload_n 1, 1) := by decide +kernel
theorem dX8_strike_18 : decode cX8_strike 18 = .ok (.iconst 0, 1) := by decide +kernel
theorem dX8_strike_19 : decode cX8_strike 19 = .ok (.bastore, 1) := by decide +kernel
theorem dX8_strike_20 : decode cX8_strike 20 = .ok (.iinc 1 1, 3) := by decide +kernel
theorem dX8_strike_23 : decode cX8_strike 23 = .ok (.goto (-21), 3) := by decide +kernel
theorem dX8_strike_26 : decode cX8_strike 26 = .ok (.iconst 0, 1) := by decide +kernel
theorem dX8_strike_27 : decode cX8_strike 27 = .ok (.istore_n 1, 1) := by decide +kernel
