theorem dX8_lettered_12 : decode cX8_lettered 12 = .ok (.putfield 106, 3) := by decide +kernel
theorem dX8_lettered_15 : decode cX8_lettered 15 = .ok (.aload_n 0, 1) := by decide +kernel
theorem dX8_lettered_16 : decode cX8_lettered 16 = .ok (.getfield 106, 3) := by decide +kernel
theorem dX8_lettered_19 : decode cX8_lettered 19 = .ok (.aload_n 0, 1) := by decide +kernel
theorem dX8_lettered_20 : decode cX8_lettered 20 = .ok (.getfield 109, 3) := by decide +kernel
theorem dX8_lettered_23 : decode cX8_lettered 23 = .ok (.getfield 112, 3) := by decide +kernel
theorem dX8_lettered_26 : decode cX8_lettered 26 = .ok (.if_icmp .ge 22, 3) := by decide +kernel
theorem dX8_lettered_29 : decode cX8_lettered 29 = .ok (.aload_n 0, 1) := by decide +kernel
theorem dX8_lettered_30 : decode cX8_lettered 30 = .ok (.getfield 109, 3) := by decide +kernel
theorem dX8_lettered_33 : decode cX8_lettered 33 = .ok (.getfield 113, 3) := by decide +kernel
theorem dX8_lettered_36 : decode cX8_lettered 36 = .ok (.aload_n 0, 1) := by decide +kernel
theorem dX8_lettered_37 : decode cX8_lettered 37 = .ok (.getfield 106, 3) := by decide +kernel
theorem dX8_lettered_40 : decode cX8_lettered 40 = .ok (.baload, 1) := by decide +kernel
theorem dX8_lettered_41 : decode cX8_lettered 41 = .ok (.sipush 255, 3) := by decide +kernel
theorem dX8_lettered_44 : decode cX8_lettered 44 = .ok (.iand, 1) := by decide +kernel
theorem dX8_lettered_45 : decode cX8_lettered 45 = .ok (.goto 4, 3) := by decide +kernel
theorem dX8_lettered_48 : decode cX8_lettered 48 = .ok (.iconst (-1), 1) := by decide +kernel
theorem dX8_lettered_49 : decode cX8_lettered 49 = .ok (.istore 4, 2) := by decide +kernel
theorem dX8_lettered_51 : decode cX8_lettered 51 = .ok (.iload 4, 2) := by decide +kernel
theorem dX8_lettered_53 : decode cX8_lettered 53 = .ok (.invokestatic 116, 3) := by decide +kernel
theorem dX8_lettered_56 : decode cX8_lettered 56 = .ok (.ifCond .ne 8, 3) := by decide +kernel
theorem dX8_lettered_59 : decode cX8_lettered 59 = .ok (.aload_n 0, 1) := by decide +kernel
theorem dX8_lettered_60 : decode cX8_lettered 60 = .ok (.invokevirtual 146, 3) := by decide +kernel
theorem dX8_lettered_63 : decode cX8_lettered 63 = .ok (.ireturn, 1) := by decide +kernel
theorem dX8_lettered_64 : decode cX8_lettered 64 = .ok (.iload 4, 2) := by decide +kernel
theorem dX8_lettered_66 : decode cX8_lettered 66 = .ok (.bipush 97, 2) := by decide +kernel
theorem dX8_lettered_68 : decode cX8_lettered 68 = .ok (.isub, 1) := by decide +kernel
theorem dX8_lettered_69 : decode cX8_lettered 69 = .ok (.istore 5, 2) := by decide +kernel
theorem dX8_lettered_71 : decode cX8_lettered 71 = .ok (.aload_n 0, 1) := by decide +kernel
theorem dX8_lettered_72 : decode cX8_lettered 72 = .ok (.iload_n 3, 1) := by decide +kernel
theorem dX8_lettered_73 : decode cX8_lettered 73 = .ok (.putfield 106, 3) := by decide +kernel
theorem dX8_lettered_76 : decode cX8_lettered 76 = .ok (.aload_n 0, 1) := by decide +kernel
theorem dX8_lettered_77 : decode cX8_lettered 77 = .ok (.getfield 43, 3) := by decide +kernel
theorem dX8_lettered_80 : decode cX8_lettered 80 = .ok (.iload 5, 2) := by decide +kernel
theorem dX8_lettered_82 : decode cX8_lettered 82 = .ok (.iaload, 1) := by decide +kernel
theorem dX8_lettered_83 : decode cX8_lettered 83 = .ok (.iconst (-1), 1) := by decide +kernel
theorem dX8_lettered_84 : decode cX8_lettered 84 = .ok (.if_icmp .eq 19, 3) := by decide +kernel
theorem dX8_lettered_87 : decode cX8_lettered 87 = .ok (.aload_n 0, 1) := by decide +kernel
theorem dX8_lettered_88 : decode cX8_lettered 88 = .ok (.getfield 43, 3) := by decide +kernel
theorem dX8_lettered_91 : decode cX8_lettered 91 = .ok (.iload 5, 2) := by decide +kernel
theorem dX8_lettered_93 : decode cX8_lettered 93 = .ok (.iaload, 1) := by decide +kernel
theorem dX8_lettered_94 : decode cX8_lettered 94 = .ok (.iload_n 1, 1) := by decide +kernel
theorem dX8_lettered_95 : decode cX8_lettered 95 = .ok (.if_icmp .eq 8, 3) := by decide +kernel
theorem dX8_lettered_98 : decode cX8_lettered 98 = .ok (.aload_n 0, 1) := by decide +kernel
theorem dX8_lettered_99 : decode cX8_lettered 99 = .ok (.invokevirtual 146, 3) := by decide +kernel
theorem dX8_lettered_102 : decode cX8_lettered 102 = .ok (.ireturn, 1) := by decide +kernel
theorem dX8_lettered_103 : decode cX8_lettered 103 = .ok (.aload_n 0, 1) := by decide +kernel
theorem dX8_lettered_104 : decode cX8_lettered 104 = .ok (.getfield 43, 3) := by decide +kernel
theorem dX8_lettered_107 : decode cX8_lettered 107 = .ok (.iload 5, 2) := by decide +kernel
theorem dX8_lettered_109 : decode cX8_lettered 109 = .ok (.iload_n 1, 1) := by decide +kernel
theorem dX8_lettered_110 : decode cX8_lettered 110 = .ok (.iastore, 1) := by decide +kernel
theorem dX8_lettered_111 : decode cX8_lettered 111 = .ok (.aload_n 0, 1) := by decide +kernel
theorem dX8_lettered_112 : decode cX8_lettered 112 = .ok (.iload_n 1, 1) := by decide +kernel
theorem dX8_lettered_113 : decode cX8_lettered 113 = .ok (.iload_n 2, 1) := by decide +kernel
theorem dX8_lettered_114 : decode cX8_lettered 114 = .ok (.invokevirtual 150, 3) := by decide +kernel
theorem dX8_lettered_117 : decode cX8_lettered 117 = .ok (.istore 6, 2) := by decide +kernel
theorem dX8_lettered_119 : decode cX8_lettered 119 = .ok (.aload_n 0, 1) := by decide +kernel
theorem dX8_lettered_120 : decode cX8_lettered 120 = .ok (.getfield 109, 3) := by decide +kernel
theorem dX8_lettered_123 : decode cX8_lettered 123 = .ok (.getfield 140, 3) := by decide +kernel
theorem dX8_lettered_126 : decode cX8_lettered 126 = .ok (.iload 6, 2) := by decide +kernel
theorem dX8_lettered_128 : decode cX8_lettered 128 = .ok (.iload 5, 2) := by decide +kernel
theorem dX8_lettered_130 : decode cX8_lettered 130 = .ok (.iastore, 1) := by decide +kernel
theorem dX8_lettered_131 : decode cX8_lettered 131 = .ok (.aload_n 0, 1) := by decide +kernel
theorem dX8_lettered_132 : decode cX8_lettered 132 = .ok (.dup, 1) := by decide +kernel
theorem dX8_lettered_133 : decode cX8_lettered 133 = .ok (.getfield 106, 3) := by decide +kernel
theorem dX8_lettered_136 : decode cX8_lettered 136 = .ok (.iconst 2, 1) := by decide +kernel
theorem dX8_lettered_137 : decode cX8_lettered 137 = .ok (.iadd, 1) := by decide +kernel
theorem dX8_lettered_138 : decode cX8_lettered 138 = .ok (.putfield 106, 3) := by decide +kernel
theorem dX8_lettered_141 : decode cX8_lettered 141 = .ok (.aload_n 0, 1) := by decide +kernel
theorem dX8_lettered_142 : decode cX8_lettered 142 = .ok (.getfield 109, 3) := by decide +kernel
theorem dX8_lettered_145 : decode cX8_lettered 145 = .ok (.getfield 154, 3) := by decide +kernel
theorem dX8_lettered_148 : decode cX8_lettered 148 = .ok (.iload 6, 2) := by decide +kernel
theorem dX8_lettered_150 : decode cX8_lettered 150 = .ok (.aload_n 0, 1) := by decide +kernel
theorem dX8_lettered_151 : decode cX8_lettered 151 = .ok (.getfield 106, 3) := by decide +kernel
theorem dX8_lettered_154 : decode cX8_lettered 154 = .ok (.iastore, 1) := by decide +kernel
theorem dX8_lettered_155 : decode cX8_lettered 155 = .ok (.iconst 1, 1) := by decide +kernel
theorem dX8_lettered_156 : decode cX8_lettered 156 = .ok (.ireturn, 1) := by decide +kernel
theorem dX8_piece_0 : decode cX8_piece 0 = .ok (.aload_n 0, 1) := by decide +kernel
theorem dX8_piece_1 : decode cX8_piece 1 = .ok (.invokevirtual 157, 3) := by decide +kernel
theorem dX8_piece_4 : decode cX8_piece 4 = .ok (.istore_n 3, 1) := by decide +kernel
theorem dX8_piece_5 : decode cX8_piece 5 = .ok (.iload_n 3, 1) := by decide +kernel
theorem dX8_piece_6 : decode cX8_piece 6 = .ok (.invokestatic 161, 3) := by decide +kernel
theorem dX8_piece_9 : decode cX8_piece 9 = .ok (.ifCond .eq 9, 3) := by decide +kernel
theorem dX8_piece_12 : decode cX8_piece 12 = .ok (.aload_n 0, 1) := by decide +kernel
theorem dX8_piece_13 : decode cX8_piece 13 = .ok (.iload_n 1, 1) := by decide +kernel
theorem dX8_piece_14 : decode cX8_piece 14 = .ok (.invokevirtual 164, 3) := by decide +kernel
theorem dX8_piece_17 : decode cX8_piece 17 = .ok (.ireturn, 1) := by decide +kernel
theorem dX8_piece_18 : decode cX8_piece 18 = .ok (.aload_n 0, 1) := by decide +kernel
theorem dX8_piece_19 : decode cX8_piece 19 = .ok (.getfield 167, 3) := by decide +kernel
theorem dX8_piece_22 : decode cX8_piece 22 = .ok (.ifCond .eq 16, 3) := by decide +kernel
theorem dX8_piece_25 : decode cX8_piece 25 = .ok (.iload_n 3, 1) := by decide +kernel
theorem dX8_piece_26 : decode cX8_piece 26 = .ok (.bipush 63, 2) := by decide +kernel
theorem dX8_piece_28 : decode cX8_piece 28 = .ok (.if_icmp .ne 10, 3) := by decide +kernel
theorem dX8_piece_31 : decode cX8_piece 31 = .ok (.aload_n 0, 1) := by decide +kernel
theorem dX8_piece_32 : decode cX8_piece 32 = .ok (.iconst 1, 1) := by decide +kernel
theorem dX8_piece_33 : decode cX8_piece 33 = .ok (.iload_n 1, 1) := by decide +kernel
theorem dX8_piece_34 : decode cX8_piece 34 = .ok (.invokevirtual 170, 3) := by decide +kernel
theorem dX8_piece_37 : decode cX8_piece 37 = .ok (.ireturn, 1) := by decide +kernel
theorem dX8_piece_38 : decode cX8_piece 38 = .ok (.aload_n 0, 1) := by decide +kernel
theorem dX8_piece_39 : decode cX8_piece 39 = .ok (.getfield 167, 3) := by decide +kernel
theorem dX8_piece_42 : decode cX8_piece 42 = .ok (.ifCond .eq 58, 3) := by decide +kernel
theorem dX8_piece_45 : decode cX8_piece 45 = .ok (.iload_n 3, 1) := by decide +kernel
theorem dX8_piece_46 : decode cX8_piece 46 = .ok (.bipush 42, 2) := by decide +kernel
theorem dX8_piece_48 : decode cX8_piece 48 = .ok (.if_icmp .ne 52, 3) := by decide +kernel
theorem dX8_piece_51 : decode cX8_piece 51 = .ok (.iload_n 2, 1) := by decide +kernel
theorem dX8_piece_52 : decode cX8_piece 52 = .ok (.ifCond .eq 48, 3) := by decide +kernel
theorem dX8_piece_55 : decode cX8_piece 55 = .ok (.aload_n 0, 1) := by decide +kernel
theorem dX8_piece_56 : decode cX8_piece 56 = .ok (.getfield 167, 3) := by decide +kernel
theorem dX8_piece_59 : decode cX8_piece 59 = .ok (.iconst 1, 1) := by decide +kernel
theorem dX8_piece_60 : decode cX8_piece 60 = .ok (.if_icmp .ne 23, 3) := by decide +kernel
theorem dX8_piece_63 : decode cX8_piece 63 = .ok (.aload_n 0, 1) := by decide +kernel
theorem dX8_piece_64 : decode cX8_piece 64 = .ok (.getfield 174, 3) := by decide +kernel
theorem dX8_piece_67 : decode cX8_piece 67 = .ok (.ifCond .ne 11, 3) := by decide +kernel
theorem dX8_piece_70 : decode cX8_piece 70 = .ok (.aload_n 0, 1) := by decide +kernel
theorem dX8_piece_71 : decode cX8_piece 71 = .ok (.getfield 178, 3) := by decide +kernel
theorem dX8_piece_74 : decode cX8_piece 74 = .ok (.iconst 2, 1) := by decide +kernel
theorem dX8_piece_75 : decode cX8_piece 75 = .ok (.if_icmp .ne 8, 3) := by decide +kernel
theorem dX8_piece_78 : decode cX8_piece 78 = .ok (.aload_n 0, 1) := by decide +kernel
theorem dX8_piece_79 : decode cX8_piece 79 = .ok (.invokevirtual 146, 3) := by decide +kernel
theorem dX8_piece_82 : decode cX8_piece 82 = .ok (.ireturn, 1) := by decide +kernel
theorem dX8_piece_83 : decode cX8_piece 83 = .ok (.aload_n 0, 1) := by decide +kernel
theorem dX8_piece_84 : decode cX8_piece 84 = .ok (.dup, 1) := by decide +kernel
theorem dX8_piece_85 : decode cX8_piece 85 = .ok (.getfield 178, 3) := by decide +kernel
theorem dX8_piece_88 : decode cX8_piece 88 = .ok (.iconst 1, 1) := by decide +kernel
theorem dX8_piece_89 : decode cX8_piece 89 = .ok (.iadd, 1) := by decide +kernel
theorem dX8_piece_90 : decode cX8_piece 90 = .ok (.putfield 178, 3) := by decide +kernel
theorem dX8_piece_93 : decode cX8_piece 93 = .ok (.aload_n 0, 1) := by decide +kernel
theorem dX8_piece_94 : decode cX8_piece 94 = .ok (.iconst 2, 1) := by decide +kernel
theorem dX8_piece_95 : decode cX8_piece 95 = .ok (.iload_n 1, 1) := by decide +kernel
theorem dX8_piece_96 : decode cX8_piece 96 = .ok (.invokevirtual 170, 3) := by decide +kernel
theorem dX8_piece_99 : decode cX8_piece 99 = .ok (.ireturn, 1) := by decide +kernel
theorem dX8_piece_100 : decode cX8_piece 100 = .ok (.aload_n 0, 1) := by decide +kernel
theorem dX8_piece_101 : decode cX8_piece 101 = .ok (.getfield 167, 3) := by decide +kernel
theorem dX8_piece_104 : decode cX8_piece 104 = .ok (.iconst 1, 1) := by decide +kernel
theorem dX8_piece_105 : decode cX8_piece 105 = .ok (.if_icmp .ne 145, 3) := by decide +kernel
theorem dX8_piece_108 : decode cX8_piece 108 = .ok (.iload_n 3, 1) := by decide +kernel
theorem dX8_piece_109 : decode cX8_piece 109 = .ok (.bipush 64, 2) := by decide +kernel
theorem dX8_piece_111 : decode cX8_piece 111 = .ok (.if_icmp .ne 139, 3) := by decide +kernel
theorem dX8_piece_114 : decode cX8_piece 114 = .ok (.aload_n 0, 1) := by decide +kernel
theorem dX8_piece_115 : decode cX8_piece 115 = .ok (.getfield 181, 3) := by decide +kernel
theorem dX8_piece_118 : decode cX8_piece 118 = .ok (.iconst 1, 1) := by decide +kernel
theorem dX8_piece_119 : decode cX8_piece 119 = .ok (.if_icmp .ne 8, 3) := by decide +kernel
theorem dX8_piece_122 : decode cX8_piece 122 = .ok (.aload_n 0, 1) := by decide +kernel
theorem dX8_piece_123 : decode cX8_piece 123 = .ok (.invokevirtual 146, 3) := by decide +kernel
theorem dX8_piece_126 : decode cX8_piece 126 = .ok (.ireturn, 1) := by decide +kernel
theorem dX8_piece_127 : decode cX8_piece 127 = .ok (.aload_n 0, 1) := by decide +kernel
theorem dX8_piece_128 : decode cX8_piece 128 = .ok (.dup, 1) := by decide +kernel
theorem dX8_piece_129 : decode cX8_piece 129 = .ok (.getfield 181, 3) := by decide +kernel
theorem dX8_piece_132 : decode cX8_piece 132 = .ok (.iconst 1, 1) := by decide +kernel
theorem dX8_piece_133 : decode cX8_piece 133 = .ok (.iadd, 1) := by decide +kernel
theorem dX8_piece_134 : decode cX8_piece 134 = .ok (.putfield 181, 3) := by decide +kernel
theorem dX8_piece_137 : decode cX8_piece 137 = .ok (.aload_n 0, 1) := by decide +kernel
theorem dX8_piece_138 : decode cX8_piece 138 = .ok (.iconst 3, 1) := by decide +kernel
theorem dX8_piece_139 : decode cX8_piece 139 = .ok (.iload_n 1, 1) := by decide +kernel
theorem dX8_piece_140 : decode cX8_piece 140 = .ok (.invokevirtual 150, 3) := by decide +kernel
theorem dX8_piece_143 : decode cX8_piece 143 = .ok (.istore 4, 2) := by decide +kernel
theorem dX8_piece_145 : decode cX8_piece 145 = .ok (.aload_n 0, 1) := by decide +kernel
theorem dX8_piece_146 : decode cX8_piece 146 = .ok (.dup, 1) := by decide +kernel
theorem dX8_piece_147 : decode cX8_piece 147 = .ok (.getfield 106, 3) := by decide +kernel
theorem dX8_piece_150 : decode cX8_piece 150 = .ok (.iconst 1, 1) := by decide +kernel
theorem dX8_piece_151 : decode cX8_piece 151 = .ok (.iadd, 1) := by decide +kernel
theorem dX8_piece_152 : decode cX8_piece 152 = .ok (.putfield 106, 3) := by decide +kernel
theorem dX8_piece_155 : decode cX8_piece 155 = .ok (.aload_n 0, 1) := by decide +kernel
theorem dX8_piece_156 : decode cX8_piece 156 = .ok (.invokevirtual 157, 3) := by decide +kernel
theorem dX8_piece_159 : decode cX8_piece 159 = .ok (.bipush 40, 2) := by decide +kernel
theorem dX8_piece_161 : decode cX8_piece 161 = .ok (.if_icmp .eq 8, 3) := by decide +kernel
theorem dX8_piece_164 : decode cX8_piece 164 = .ok (.aload_n 0, 1) := by decide +kernel
theorem dX8_piece_165 : decode cX8_piece 165 = .ok (.invokevirtual 146, 3) := by decide +kernel
theorem dX8_piece_168 : decode cX8_piece 168 = .ok (.ireturn, 1) := by decide +kernel
theorem dX8_piece_169 : decode cX8_piece 169 = .ok (.aload_n 0, 1) := by decide +kernel
theorem dX8_piece_170 : decode cX8_piece 170 = .ok (.invokevirtual 184, 3) := by decide +kernel
theorem dX8_piece_173 : decode cX8_piece 173 = .ok (.ifCond .ne 5, 3) := by decide +kernel
theorem dX8_piece_176 : decode cX8_piece 176 = .ok (.iconst 0, 1) := by decide +kernel
theorem dX8_piece_177 : decode cX8_piece 177 = .ok (.ireturn, 1) := by decide +kernel
theorem dX8_piece_178 : decode cX8_piece 178 = .ok (.aload_n 0, 1) := by decide +kernel
theorem dX8_piece_179 : decode cX8_piece 179 = .ok (.iconst 1, 1) := by decide +kernel
theorem dX8_piece_180 : decode cX8_piece 180 = .ok (.putfield 174, 3) := by decide +kernel
theorem dX8_piece_183 : decode cX8_piece 183 = .ok (.aload_n 0, 1) := by decide +kernel
theorem dX8_piece_184 : decode cX8_piece 184 = .ok (.iload 4, 2) := by decide +kernel
theorem dX8_piece_186 : decode cX8_piece 186 = .ok (.iconst 0, 1) := by decide +kernel
theorem dX8_piece_187 : decode cX8_piece 187 = .ok (.invokevirtual 187, 3) := by decide +kernel
theorem dX8_piece_190 : decode cX8_piece 190 = .ok (.ifCond .ne 5, 3) := by decide +kernel
theorem dX8_piece_193 : decode cX8_piece 193 = .ok (.iconst 0, 1) := by decide +kernel
theorem dX8_piece_194 : decode cX8_piece 194 = .ok (.ireturn, 1) := by decide +kernel
theorem dX8_piece_195 : decode cX8_piece 195 = .ok (.aload_n 0, 1) := by decide +kernel
theorem dX8_piece_196 : decode cX8_piece 196 = .ok (.iconst 0, 1) := by decide +kernel
theorem dX8_piece_197 : decode cX8_piece 197 = .ok (.putfield 174, 3) := by decide +kernel
theorem dX8_piece_200 : decode cX8_piece 200 = .ok (.aload_n 0, 1) := by decide +kernel
theorem dX8_piece_201 : decode cX8_piece 201 = .ok (.invokevirtual 157, 3) := by decide +kernel
theorem dX8_piece_204 : decode cX8_piece 204 = .ok (.bipush 41, 2) := by decide +kernel
theorem dX8_piece_206 : decode cX8_piece 206 = .ok (.if_icmp .eq 8, 3) := by decide +kernel
theorem dX8_piece_209 : decode cX8_piece 209 = .ok (.aload_n 0, 1) := by decide +kernel
theorem dX8_piece_210 : decode cX8_piece 210 = .ok (.invokevirtual 146, 3) := by decide +kernel
theorem dX8_piece_213 : decode cX8_piece 213 = .ok (.ireturn, 1) := by decide +kernel
theorem dX8_piece_214 : decode cX8_piece 214 = .ok (.aload_n 0, 1) := by decide +kernel
theorem dX8_piece_215 : decode cX8_piece 215 = .ok (.dup, 1) := by decide +kernel
theorem dX8_piece_216 : decode cX8_piece 216 = .ok (.getfield 143, 3) := by decide +kernel
theorem dX8_piece_219 : decode cX8_piece 219 = .ok (.iconst 1, 1) := by decide +kernel
theorem dX8_piece_220 : decode cX8_piece 220 = .ok (.isub, 1) := by decide +kernel
theorem dX8_piece_221 : decode cX8_piece 221 = .ok (.putfield 143, 3) := by decide +kernel
theorem dX8_piece_224 : decode cX8_piece 224 = .ok (.aload_n 0, 1) := by decide +kernel
theorem dX8_piece_225 : decode cX8_piece 225 = .ok (.dup, 1) := by decide +kernel
theorem dX8_piece_226 : decode cX8_piece 226 = .ok (.getfield 106, 3) := by decide +kernel
theorem dX8_piece_229 : decode cX8_piece 229 = .ok (.iconst 1, 1) := by decide +kernel
theorem dX8_piece_230 : decode cX8_piece 230 = .ok (.iadd, 1) := by decide +kernel
theorem dX8_piece_231 : decode cX8_piece 231 = .ok (.putfield 106, 3) := by decide +kernel
theorem dX8_piece_234 : decode cX8_piece 234 = .ok (.aload_n 0, 1) := by decide +kernel
theorem dX8_piece_235 : decode cX8_piece 235 = .ok (.getfield 109, 3) := by decide +kernel
theorem dX8_piece_238 : decode cX8_piece 238 = .ok (.getfield 154, 3) := by decide +kernel
theorem dX8_piece_241 : decode cX8_piece 241 = .ok (.iload 4, 2) := by decide +kernel
theorem dX8_piece_243 : decode cX8_piece 243 = .ok (.aload_n 0, 1) := by decide +kernel
theorem dX8_piece_244 : decode cX8_piece 244 = .ok (.getfield 106, 3) := by decide +kernel
theorem dX8_piece_247 : decode cX8_piece 247 = .ok (.iastore, 1) := by decide +kernel
theorem dX8_piece_248 : decode cX8_piece 248 = .ok (.iconst 1, 1) := by decide +kernel
theorem dX8_piece_249 : decode cX8_piece 249 = .ok (.ireturn, 1) := by decide +kernel
theorem dX8_piece_250 : decode cX8_piece 250 = .ok (.aload_n 0, 1) := by decide +kernel
theorem dX8_piece_251 : decode cX8_piece 251 = .ok (.invokevirtual 146, 3) := by decide +kernel
theorem dX8_piece_254 : decode cX8_piece 254 = .ok (.ireturn, 1) := by decide +kernel
theorem dX8_term_0 : decode cX8_term 0 = .ok (.aload_n 0, 1) := by decide +kernel
theorem dX8_term_1 : decode cX8_term 1 = .ok (.iconst 0, 1) := by decide +kernel
theorem dX8_term_2 : decode cX8_term 2 = .ok (.iload_n 1, 1) := by decide +kernel
theorem dX8_term_3 : decode cX8_term 3 = .ok (.invokevirtual 150, 3) := by decide +kernel
theorem dX8_term_6 : decode cX8_term 6 = .ok (.istore_n 2, 1) := by decide +kernel
theorem dX8_term_7 : decode cX8_term 7 = .ok (.aload_n 0, 1) := by decide +kernel
theorem dX8_term_8 : decode cX8_term 8 = .ok (.getfield 106, 3) := by decide +kernel
theorem dX8_term_11 : decode cX8_term 11 = .ok (.aload_n 0, 1) := by decide +kernel
theorem dX8_term_12 : decode cX8_term 12 = .ok (.getfield 109, 3) := by decide +kernel
theorem dX8_term_15 : decode cX8_term 15 = .ok (.getfield 112, 3) := by decide +kernel
theorem dX8_term_18 : decode cX8_term 18 = .ok (.if_icmp .ge 34, 3) := by decide +kernel
theorem dX8_term_21 : decode cX8_term 21 = .ok (.aload_n 0, 1) := by decide +kernel
theorem dX8_term_22 : decode cX8_term 22 = .ok (.getfield 109, 3) := by decide +kernel
theorem dX8_term_25 : decode cX8_term 25 = .ok (.getfield 113, 3) := by decide +kernel
theorem dX8_term_28 : decode cX8_term 28 = .ok (.aload_n 0, 1) := by decide +kernel
theorem dX8_term_29 : decode cX8_term 29 = .ok (.getfield 106, 3) := by decide +kernel
theorem dX8_term_32 : decode cX8_term 32 = .ok (.baload, 1) := by decide +kernel
theorem dX8_term_33 : decode cX8_term 33 = .ok (.invokestatic 161, 3) := by decide +kernel
theorem dX8_term_36 : decode cX8_term 36 = .ok (.ifCond .eq 16, 3) := by decide +kernel
theorem dX8_term_39 : decode cX8_term 39 = .ok (.aload_n 0, 1) := by decide +kernel
theorem dX8_term_40 : decode cX8_term 40 = .ok (.dup, 1) := by decide +kernel
theorem dX8_term_41 : decode cX8_term 41 = .ok (.getfield 106, 3) := by decide +kernel
theorem dX8_term_44 : decode cX8_term 44 = .ok (.iconst 1, 1) := by decide +kernel
theorem dX8_term_45 : decode cX8_term 45 = .ok (.iadd, 1) := by decide +kernel
theorem dX8_term_46 : decode cX8_term 46 = .ok (.putfield 106, 3) := by decide +kernel
theorem dX8_term_49 : decode cX8_term 49 = .ok (.goto (-42), 3) := by decide +kernel
theorem dX8_term_52 : decode cX8_term 52 = .ok (.aload_n 0, 1) := by decide +kernel
theorem dX8_term_53 : decode cX8_term 53 = .ok (.getfield 109, 3) := by decide +kernel
theorem dX8_term_56 : decode cX8_term 56 = .ok (.getfield 191, 3) := by decide +kernel
theorem dX8_term_59 : decode cX8_term 59 = .ok (.iload_n 2, 1) := by decide +kernel
theorem dX8_term_60 : decode cX8_term 60 = .ok (.aload_n 0, 1) := by decide +kernel
theorem dX8_term_61 : decode cX8_term 61 = .ok (.getfield 106, 3) := by decide +kernel
theorem dX8_term_64 : decode cX8_term 64 = .ok (.iastore, 1) := by decide +kernel
theorem dX8_term_65 : decode cX8_term 65 = .ok (.aload_n 0, 1) := by decide +kernel
theorem dX8_term_66 : decode cX8_term 66 = .ok (.getfield 109, 3) := by decide +kernel
theorem dX8_term_69 : decode cX8_term 69 = .ok (.getfield 154, 3) := by decide +kernel
theorem dX8_term_72 : decode cX8_term 72 = .ok (.iload_n 2, 1) := by decide +kernel
theorem dX8_term_73 : decode cX8_term 73 = .ok (.aload_n 0, 1) := by decide +kernel
theorem dX8_term_74 : decode cX8_term 74 = .ok (.getfield 106, 3) := by decide +kernel
theorem dX8_term_77 : decode cX8_term 77 = .ok (.iastore, 1) := by decide +kernel
theorem dX8_term_78 : decode cX8_term 78 = .ok (.aload_n 0, 1) := by decide +kernel
theorem dX8_term_79 : decode cX8_term 79 = .ok (.invokevirtual 157, 3) := by decide +kernel
theorem dX8_term_82 : decode cX8_term 82 = .ok (.bipush 40, 2) := by decide +kernel
theorem dX8_term_84 : decode cX8_term 84 = .ok (.if_icmp .eq 5, 3) := by decide +kernel
theorem dX8_term_87 : decode cX8_term 87 = .ok (.iconst 1, 1) := by decide +kernel
theorem dX8_term_88 : decode cX8_term 88 = .ok (.ireturn, 1) := by decide +kernel
theorem dX8_term_89 : decode cX8_term 89 = .ok (.aload_n 0, 1) := by decide +kernel
theorem dX8_term_90 : decode cX8_term 90 = .ok (.getfield 109, 3) := by decide +kernel
theorem dX8_term_93 : decode cX8_term 93 = .ok (.getfield 137, 3) := by decide +kernel
theorem dX8_term_96 : decode cX8_term 96 = .ok (.iload_n 2, 1) := by decide +kernel
theorem dX8_term_97 : decode cX8_term 97 = .ok (.iconst 1, 1) := by decide +kernel
theorem dX8_term_98 : decode cX8_term 98 = .ok (.bastore, 1) := by decide +kernel
theorem dX8_term_99 : decode cX8_term 99 = .ok (.aload_n 0, 1) := by decide +kernel
theorem dX8_term_100 : decode cX8_term 100 = .ok (.invokevirtual 184, 3) := by decide +kernel
theorem dX8_term_103 : decode cX8_term 103 = .ok (.ifCond .ne 5, 3) := by decide +kernel
theorem dX8_term_106 : decode cX8_term 106 = .ok (.iconst 0, 1) := by decide +kernel
theorem dX8_term_107 : decode cX8_term 107 = .ok (.ireturn, 1) := by decide +kernel
theorem dX8_term_108 : decode cX8_term 108 = .ok (.aload_n 0, 1) := by decide +kernel
theorem dX8_term_109 : decode cX8_term 109 = .ok (.invokevirtual 157, 3) := by decide +kernel
theorem dX8_term_112 : decode cX8_term 112 = .ok (.bipush 41, 2) := by decide +kernel
theorem dX8_term_114 : decode cX8_term 114 = .ok (.if_icmp .eq 58, 3) := by decide +kernel
theorem dX8_term_117 : decode cX8_term 117 = .ok (.aload_n 0, 1) := by decide +kernel
theorem dX8_term_118 : decode cX8_term 118 = .ok (.iload_n 2, 1) := by decide +kernel
theorem dX8_term_119 : decode cX8_term 119 = .ok (.iconst 1, 1) := by decide +kernel
theorem dX8_term_120 : decode cX8_term 120 = .ok (.invokevirtual 187, 3) := by decide +kernel
theorem dX8_term_123 : decode cX8_term 123 = .ok (.ifCond .ne 5, 3) := by decide +kernel
theorem dX8_term_126 : decode cX8_term 126 = .ok (.iconst 0, 1) := by decide +kernel
theorem dX8_term_127 : decode cX8_term 127 = .ok (.ireturn, 1) := by decide +kernel
theorem dX8_term_128 : decode cX8_term 128 = .ok (.aload_n 0, 1) := by decide +kernel
theorem dX8_term_129 : decode cX8_term 129 = .ok (.invokevirtual 157, 3) := by decide +kernel
theorem dX8_term_132 : decode cX8_term 132 = .ok (.bipush 44, 2) := by decide +kernel
theorem dX8_term_134 : decode cX8_term 134 = .ok (.if_icmp .ne 24, 3) := by decide +kernel
theorem dX8_term_137 : decode cX8_term 137 = .ok (.aload_n 0, 1) := by decide +kernel
theorem dX8_term_138 : decode cX8_term 138 = .ok (.dup, 1) := by decide +kernel
theorem dX8_term_139 : decode cX8_term 139 = .ok (.getfield 106, 3) := by decide +kernel
theorem dX8_term_142 : decode cX8_term 142 = .ok (.iconst 1, 1) := by decide +kernel
theorem dX8_term_143 : decode cX8_term 143 = .ok (.iadd, 1) := by decide +kernel
theorem dX8_term_144 : decode cX8_term 144 = .ok (.putfield 106, 3) := by decide +kernel
theorem dX8_term_147 : decode cX8_term 147 = .ok (.aload_n 0, 1) := by decide +kernel
theorem dX8_term_148 : decode cX8_term 148 = .ok (.iload_n 2, 1) := by decide +kernel
theorem dX8_term_149 : decode cX8_term 149 = .ok (.iconst 1, 1) := by decide +kernel
theorem dX8_term_150 : decode cX8_term 150 = .ok (.invokevirtual 187, 3) := by decide +kernel
theorem dX8_term_153 : decode cX8_term 153 = .ok (.ifCond .ne (-25), 3) := by decide +kernel
theorem dX8_term_156 : decode cX8_term 156 = .ok (.iconst 0, 1) := by decide +kernel
theorem dX8_term_157 : decode cX8_term 157 = .ok (.ireturn, 1) := by decide +kernel
theorem dX8_term_158 : decode cX8_term 158 = .ok (.aload_n 0, 1) := by decide +kernel
theorem dX8_term_159 : decode cX8_term 159 = .ok (.invokevirtual 157, 3) := by decide +kernel
theorem dX8_term_162 : decode cX8_term 162 = .ok (.bipush 41, 2) := by decide +kernel
theorem dX8_term_164 : decode cX8_term 164 = .ok (.if_icmp .eq 8, 3) := by decide +kernel
theorem dX8_term_167 : decode cX8_term 167 = .ok (.aload_n 0, 1) := by decide +kernel
theorem dX8_term_168 : decode cX8_term 168 = .ok (.invokevirtual 146, 3) := by decide +kernel
theorem dX8_term_171 : decode cX8_term 171 = .ok (.ireturn, 1) := by decide +kernel
theorem dX8_term_172 : decode cX8_term 172 = .ok (.aload_n 0, 1) := by decide +kernel
theorem dX8_term_173 : decode cX8_term 173 = .ok (.dup, 1) := by decide +kernel
theorem dX8_term_174 : decode cX8_term 174 = .ok (.getfield 143, 3) := by decide +kernel
theorem dX8_term_177 : decode cX8_term 177 = .ok (.iconst 1, 1) := by decide +kernel
theorem dX8_term_178 : decode cX8_term 178 = .ok (.isub, 1) := by decide +kernel
theorem dX8_term_179 : decode cX8_term 179 = .ok (.putfield 143, 3) := by decide +kernel
theorem dX8_term_182 : decode cX8_term 182 = .ok (.aload_n 0, 1) := by decide +kernel
theorem dX8_term_183 : decode cX8_term 183 = .ok (.dup, 1) := by decide +kernel
theorem dX8_term_184 : decode cX8_term 184 = .ok (.getfield 106, 3) := by decide +kernel
theorem dX8_term_187 : decode cX8_term 187 = .ok (.iconst 1, 1) := by decide +kernel
theorem dX8_term_188 : decode cX8_term 188 = .ok (.iadd, 1) := by decide +kernel
theorem dX8_term_189 : decode cX8_term 189 = .ok (.putfield 106, 3) := by decide +kernel
theorem dX8_term_192 : decode cX8_term 192 = .ok (.aload_n 0, 1) := by decide +kernel
theorem dX8_term_193 : decode cX8_term 193 = .ok (.getfield 109, 3) := by decide +kernel
theorem dX8_term_196 : decode cX8_term 196 = .ok (.getfield 154, 3) := by decide +kernel
theorem dX8_term_199 : decode cX8_term 199 = .ok (.iload_n 2, 1) := by decide +kernel
theorem dX8_term_200 : decode cX8_term 200 = .ok (.aload_n 0, 1) := by decide +kernel
theorem dX8_term_201 : decode cX8_term 201 = .ok (.getfield 106, 3) := by decide +kernel
theorem dX8_term_204 : decode cX8_term 204 = .ok (.iastore, 1) := by decide +kernel
theorem dX8_term_205 : decode cX8_term 205 = .ok (.iconst 1, 1) := by decide +kernel
theorem dX8_term_206 : decode cX8_term 206 = .ok (.ireturn, 1) := by decide +kernel
theorem dX8_read_0 : decode cX8_read 0 = .ok (.aload_n 0, 1) := by decide +kernel
theorem dX8_read_1 : decode cX8_read 1 = .ok (.aload_n 1, 1) := by decide +kernel
theorem dX8_read_2 : decode cX8_read 2 = .ok (.putfield 109, 3) := by decide +kernel
theorem dX8_read_5 : decode cX8_read 5 = .ok (.aload_n 0, 1) := by decide +kernel
theorem dX8_read_6 : decode cX8_read 6 = .ok (.iload 5, 2) := by decide +kernel
theorem dX8_read_8 : decode cX8_read 8 = .ok (.putfield 167, 3) := by decide +kernel
theorem dX8_read_11 : decode cX8_read 11 = .ok (.aload_n 1, 1) := by decide +kernel
theorem dX8_read_12 : decode cX8_read 12 = .ok (.iload 4, 2) := by decide +kernel
theorem dX8_read_14 : decode cX8_read 14 = .ok (.putfield 112, 3) := by decide +kernel
theorem dX8_read_17 : decode cX8_read 17 = .ok (.iconst 0, 1) := by decide +kernel
theorem dX8_read_18 : decode cX8_read 18 = .ok (.istore 6, 2) := by decide +kernel
theorem dX8_read_20 : decode cX8_read 20 = .ok (.iload 6, 2) := by decide +kernel
theorem dX8_read_22 : decode cX8_read 22 = .ok (.iload 4, 2) := by decide +kernel
theorem dX8_read_24 : decode cX8_read 24 = .ok (.if_icmp .ge 22, 3) := by decide +kernel
theorem dX8_read_27 : decode cX8_read 27 = .ok (.aload_n 1, 1) := by decide +kernel
theorem dX8_read_28 : decode cX8_read 28 = .ok (.getfield 113, 3) := by decide +kernel
theorem dX8_read_31 : decode cX8_read 31 = .ok (.iload 6, 2) := by decide +kernel
theorem dX8_read_33 : decode cX8_read 33 = .ok (.aload_n 2, 1) := by decide +kernel
theorem dX8_read_34 : decode cX8_read 34 = .ok (.iload_n 3, 1) := by decide +kernel
theorem dX8_read_35 : decode cX8_read 35 = .ok (.iload 6, 2) := by decide +kernel
theorem dX8_read_37 : decode cX8_read 37 = .ok (.iadd, 1) := by decide +kernel
theorem dX8_read_38 : decode cX8_read 38 = .ok (.baload, 1) := by decide +kernel
theorem dX8_read_39 : decode cX8_read 39 = .ok (.bastore, 1) := by decide +kernel
theorem dX8_read_40 : decode cX8_read 40 = .ok (.iinc 6 1, 3) := by decide +kernel
theorem dX8_read_43 : decode cX8_read 43 = .ok (.goto (-23), 3) := by decide +kernel
theorem dX8_read_46 : decode cX8_read 46 = .ok (.aload_n 1, 1) := by decide +kernel
theorem dX8_read_47 : decode cX8_read 47 = .ok (.iconst 0, 1) := by decide +kernel
theorem dX8_read_48 : decode cX8_read 48 = .ok (.putfield 122, 3) := by decide +kernel
theorem dX8_read_51 : decode cX8_read 51 = .ok (.aload_n 0, 1) := by decide +kernel
theorem dX8_read_52 : decode cX8_read 52 = .ok (.iconst 0, 1) := by decide +kernel
theorem dX8_read_53 : decode cX8_read 53 = .ok (.putfield 106, 3) := by decide +kernel
theorem dX8_read_56 : decode cX8_read 56 = .ok (.aload_n 0, 1) := by decide +kernel
theorem dX8_read_57 : decode cX8_read 57 = .ok (.iconst (-1), 1) := by decide +kernel
theorem dX8_read_58 : decode cX8_read 58 = .ok (.putfield 119, 3) := by decide +kernel
theorem dX8_read_61 : decode cX8_read 61 = .ok (.aload_n 0, 1) := by decide +kernel
theorem dX8_read_62 : decode cX8_read 62 = .ok (.iconst 0, 1) := by decide +kernel
theorem dX8_read_63 : decode cX8_read 63 = .ok (.putfield 143, 3) := by decide +kernel
theorem dX8_read_66 : decode cX8_read 66 = .ok (.aload_n 0, 1) := by decide +kernel
theorem dX8_read_67 : decode cX8_read 67 = .ok (.iconst 0, 1) := by decide +kernel
theorem dX8_read_68 : decode cX8_read 68 = .ok (.putfield 178, 3) := by decide +kernel
theorem dX8_read_71 : decode cX8_read 71 = .ok (.aload_n 0, 1) := by decide +kernel
theorem dX8_read_72 : decode cX8_read 72 = .ok (.iconst 0, 1) := by decide +kernel
theorem dX8_read_73 : decode cX8_read 73 = .ok (.putfield 181, 3) := by decide +kernel
theorem dX8_read_76 : decode cX8_read 76 = .ok (.aload_n 0, 1) := by decide +kernel
theorem dX8_read_77 : decode cX8_read 77 = .ok (.iconst 0, 1) := by decide +kernel
theorem dX8_read_78 : decode cX8_read 78 = .ok (.putfield 174, 3) := by decide +kernel
theorem dX8_read_81 : decode cX8_read 81 = .ok (.iconst 0, 1) := by decide +kernel
theorem dX8_read_82 : decode cX8_read 82 = .ok (.istore 6, 2) := by decide +kernel
theorem dX8_read_84 : decode cX8_read 84 = .ok (.iload 6, 2) := by decide +kernel
theorem dX8_read_86 : decode cX8_read 86 = .ok (.bipush 26, 2) := by decide +kernel
theorem dX8_read_88 : decode cX8_read 88 = .ok (.if_icmp .ge 17, 3) := by decide +kernel
theorem dX8_read_91 : decode cX8_read 91 = .ok (.aload_n 0, 1) := by decide +kernel
theorem dX8_read_92 : decode cX8_read 92 = .ok (.getfield 43, 3) := by decide +kernel
theorem dX8_read_95 : decode cX8_read 95 = .ok (.iload 6, 2) := by decide +kernel
theorem dX8_read_97 : decode cX8_read 97 = .ok (.iconst (-1), 1) := by decide +kernel
theorem dX8_read_98 : decode cX8_read 98 = .ok (.iastore, 1) := by decide +kernel
theorem dX8_read_99 : decode cX8_read 99 = .ok (.iinc 6 1, 3) := by decide +kernel
theorem dX8_read_102 : decode cX8_read 102 = .ok (.goto (-18), 3) := by decide +kernel
theorem dX8_read_105 : decode cX8_read 105 = .ok (.aload_n 0, 1) := by decide +kernel
theorem dX8_read_106 : decode cX8_read 106 = .ok (.iconst (-1), 1) := by decide +kernel
theorem dX8_read_107 : decode cX8_read 107 = .ok (.iconst 0, 1) := by decide +kernel
theorem dX8_read_108 : decode cX8_read 108 = .ok (.invokevirtual 187, 3) := by decide +kernel
theorem dX8_read_111 : decode cX8_read 111 = .ok (.istore 6, 2) := by decide +kernel
theorem dX8_read_113 : decode cX8_read 113 = .ok (.iload 6, 2) := by decide +kernel
theorem dX8_read_115 : decode cX8_read 115 = .ok (.ifCond .eq 16, 3) := by decide +kernel
theorem dX8_read_118 : decode cX8_read 118 = .ok (.aload_n 0, 1) := by decide +kernel
theorem dX8_read_119 : decode cX8_read 119 = .ok (.invokevirtual 157, 3) := by decide +kernel
theorem dX8_read_122 : decode cX8_read 122 = .ok (.iconst (-1), 1) := by decide +kernel
theorem dX8_read_123 : decode cX8_read 123 = .ok (.if_icmp .eq 8, 3) := by decide +kernel
theorem dX8_read_126 : decode cX8_read 126 = .ok (.aload_n 0, 1) := by decide +kernel
theorem dX8_read_127 : decode cX8_read 127 = .ok (.invokevirtual 146, 3) := by decide +kernel
theorem dX8_read_130 : decode cX8_read 130 = .ok (.pop, 1) := by decide +kernel
theorem dX8_read_131 : decode cX8_read 131 = .ok (.aload_n 0, 1) := by decide +kernel
theorem dX8_read_132 : decode cX8_read 132 = .ok (.getfield 119, 3) := by decide +kernel
theorem dX8_read_135 : decode cX8_read 135 = .ok (.ireturn, 1) := by decide +kernel
theorem dX8_bytesIn_0 : decode cX8_bytesIn 0 = .ok (.iconst 0, 1) := by decide +kernel
theorem dX8_bytesIn_1 : decode cX8_bytesIn 1 = .ok (.istore_n 1, 1) := by decide +kernel
theorem dX8_bytesIn_2 : decode cX8_bytesIn 2 = .ok (.bipush 24, 2) := by decide +kernel
theorem dX8_bytesIn_4 : decode cX8_bytesIn 4 = .ok (.istore_n 2, 1) := by decide +kernel
theorem dX8_bytesIn_5 : decode cX8_bytesIn 5 = .ok (.iload_n 2, 1) := by decide +kernel
theorem dX8_bytesIn_6 : decode cX8_bytesIn 6 = .ok (.ifCond .lt 27, 3) := by decide +kernel
theorem dX8_bytesIn_9 : decode cX8_bytesIn 9 = .ok (.iload_n 1, 1) := by decide +kernel
theorem dX8_bytesIn_10 : decode cX8_bytesIn 10 = .ok (.iload_n 0, 1) := by decide +kernel
theorem dX8_bytesIn_11 : decode cX8_bytesIn 11 = .ok (.iload_n 2, 1) := by decide +kernel
theorem dX8_bytesIn_12 : decode cX8_bytesIn 12 = .ok (.ishr, 1) := by decide +kernel
theorem dX8_bytesIn_13 : decode cX8_bytesIn 13 = .ok (.sipush 255, 3) := by decide +kernel
theorem dX8_bytesIn_16 : decode cX8_bytesIn 16 = .ok (.iand, 1) := by decide +kernel
theorem dX8_bytesIn_17 : decode cX8_bytesIn 17 = .ok (.ifCond .eq 7, 3) := by decide +kernel
theorem dX8_bytesIn_20 : decode cX8_bytesIn 20 = .ok (.iconst 1, 1) := by decide +kernel
theorem dX8_bytesIn_21 : decode cX8_bytesIn 21 = .ok (.goto 4, 3) := by decide +kernel
theorem dX8_bytesIn_24 : decode cX8_bytesIn 24 = .ok (.iconst 0, 1) := by decide +kernel
theorem dX8_bytesIn_25 : decode cX8_bytesIn 25 = .ok (.iadd, 1) := by decide +kernel
theorem dX8_bytesIn_26 : decode cX8_bytesIn 26 = .ok (.istore_n 1, 1) := by decide +kernel
theorem dX8_bytesIn_27 : decode cX8_bytesIn 27 = .ok (.iinc 2 (-8), 3) := by decide +kernel
theorem dX8_bytesIn_30 : decode cX8_bytesIn 30 = .ok (.goto (-25), 3) := by decide +kernel
theorem dX8_bytesIn_33 : decode cX8_bytesIn 33 = .ok (.iload_n 1, 1) := by decide +kernel
theorem dX8_bytesIn_34 : decode cX8_bytesIn 34 = .ok (.ireturn, 1) := by decide +kernel
theorem dX8_put4_0 : decode cX8_put4 0 = .ok (.bipush 24, 2) := by decide +kernel
theorem dX8_put4_2 : decode cX8_put4 2 = .ok (.istore_n 2, 1) := by decide +kernel
theorem dX8_put4_3 : decode cX8_put4 3 = .ok (.iload_n 2, 1) := by decide +kernel
theorem dX8_put4_4 : decode cX8_put4 4 = .ok (.ifCond .lt 45, 3) := by decide +kernel
theorem dX8_put4_7 : decode cX8_put4 7 = .ok (.iload_n 1, 1) := by decide +kernel
theorem dX8_put4_8 : decode cX8_put4 8 = .ok (.iload_n 2, 1) := by decide +kernel
theorem dX8_put4_9 : decode cX8_put4 9 = .ok (.ishr, 1) := by decide +kernel
theorem dX8_put4_10 : decode cX8_put4 10 = .ok (.sipush 255, 3) := by decide +kernel
theorem dX8_put4_13 : decode cX8_put4 13 = .ok (.iand, 1) := by decide +kernel
theorem dX8_put4_14 : decode cX8_put4 14 = .ok (.ifCond .ne 6, 3) := by decide +kernel
theorem dX8_put4_17 : decode cX8_put4 17 = .ok (.goto 26, 3) := by decide +kernel
theorem dX8_put4_20 : decode cX8_put4 20 = .ok (.aload_n 0, 1) := by decide +kernel
theorem dX8_put4_21 : decode cX8_put4 21 = .ok (.getfield 9, 3) := by decide +kernel
theorem dX8_put4_24 : decode cX8_put4 24 = .ok (.aload_n 0, 1) := by decide +kernel
theorem dX8_put4_25 : decode cX8_put4 25 = .ok (.getfield 95, 3) := by decide +kernel
theorem dX8_put4_28 : decode cX8_put4 28 = .ok (.iload_n 1, 1) := by decide +kernel
theorem dX8_put4_29 : decode cX8_put4 29 = .ok (.iload_n 2, 1) := by decide +kernel
theorem dX8_put4_30 : decode cX8_put4 30 = .ok (.ishr, 1) := by decide +kernel
theorem dX8_put4_31 : decode cX8_put4 31 = .ok (.i2b, 1) := by decide +kernel
theorem dX8_put4_32 : decode cX8_put4 32 = .ok (.bastore, 1) := by decide +kernel
theorem dX8_put4_33 : decode cX8_put4 33 = .ok (.aload_n 0, 1) := by decide +kernel
theorem dX8_put4_34 : decode cX8_put4 34 = .ok (.dup, 1) := by decide +kernel
theorem dX8_put4_35 : decode cX8_put4 35 = .ok (.getfield 95, 3) := by decide +kernel
theorem dX8_put4_38 : decode cX8_put4 38 = .ok (.iconst 1, 1) := by decide +kernel
theorem dX8_put4_39 : decode cX8_put4 39 = .ok (.iadd, 1) := by decide +kernel
theorem dX8_put4_40 : decode cX8_put4 40 = .ok (.putfield 95, 3) := by decide +kernel
theorem dX8_put4_43 : decode cX8_put4 43 = .ok (.iinc 2 (-8), 3) := by decide +kernel
theorem dX8_put4_46 : decode cX8_put4 46 = .ok (.goto (-43), 3) := by decide +kernel
theorem dX8_put4_49 : decode cX8_put4 49 = .ok (.return_, 1) := by decide +kernel
theorem dX8_feed_0 : decode cX8_feed 0 = .ok (.aload_n 0, 1) := by decide +kernel
theorem dX8_feed_1 : decode cX8_feed 1 = .ok (.iconst 0, 1) := by decide +kernel
theorem dX8_feed_2 : decode cX8_feed 2 = .ok (.putfield 103, 3) := by decide +kernel
theorem dX8_feed_5 : decode cX8_feed 5 = .ok (.aload_n 0, 1) := by decide +kernel
theorem dX8_feed_6 : decode cX8_feed 6 = .ok (.getfield 95, 3) := by decide +kernel
theorem dX8_feed_9 : decode cX8_feed 9 = .ok (.iload_n 1, 1) := by decide +kernel
theorem dX8_feed_10 : decode cX8_feed 10 = .ok (.invokestatic 194, 3) := by decide +kernel
theorem dX8_feed_13 : decode cX8_feed 13 = .ok (.iadd, 1) := by decide +kernel
theorem dX8_feed_14 : decode cX8_feed 14 = .ok (.iload_n 2, 1) := by decide +kernel
theorem dX8_feed_15 : decode cX8_feed 15 = .ok (.invokestatic 194, 3) := by decide +kernel
theorem dX8_feed_18 : decode cX8_feed 18 = .ok (.iadd, 1) := by decide +kernel
theorem dX8_feed_19 : decode cX8_feed 19 = .ok (.iload_n 3, 1) := by decide +kernel
theorem dX8_feed_20 : decode cX8_feed 20 = .ok (.invokestatic 194, 3) := by decide +kernel
theorem dX8_feed_23 : decode cX8_feed 23 = .ok (.iadd, 1) := by decide +kernel
theorem dX8_feed_24 : decode cX8_feed 24 = .ok (.iload 4, 2) := by decide +kernel
theorem dX8_feed_26 : decode cX8_feed 26 = .ok (.invokestatic 194, 3) := by decide +kernel
theorem dX8_feed_29 : decode cX8_feed 29 = .ok (.iadd, 1) := by decide +kernel
theorem dX8_feed_30 : decode cX8_feed 30 = .ok (.iload 5, 2) := by decide +kernel
theorem dX8_feed_32 : decode cX8_feed 32 = .ok (.invokestatic 194, 3) := by decide +kernel
theorem dX8_feed_35 : decode cX8_feed 35 = .ok (.iadd, 1) := by decide +kernel
theorem dX8_feed_36 : decode cX8_feed 36 = .ok (.sipush 240, 3) := by decide +kernel
theorem dX8_feed_39 : decode cX8_feed 39 = .ok (.if_icmp .le 5, 3) := by decide +kernel
theorem dX8_feed_42 : decode cX8_feed 42 = .ok (.iconst (-1), 1) := by decide +kernel
theorem dX8_feed_43 : decode cX8_feed 43 = .ok (.ireturn, 1) := by decide +kernel
theorem dX8_feed_44 : decode cX8_feed 44 = .ok (.aload_n 0, 1) := by decide +kernel
theorem dX8_feed_45 : decode cX8_feed 45 = .ok (.iload_n 1, 1) := by decide +kernel
theorem dX8_feed_46 : decode cX8_feed 46 = .ok (.invokevirtual 198, 3) := by decide +kernel
theorem dX8_feed_49 : decode cX8_feed 49 = .ok (.aload_n 0, 1) := by decide +kernel
theorem dX8_feed_50 : decode cX8_feed 50 = .ok (.iload_n 2, 1) := by decide +kernel
theorem dX8_feed_51 : decode cX8_feed 51 = .ok (.invokevirtual 198, 3) := by decide +kernel
theorem dX8_feed_54 : decode cX8_feed 54 = .ok (.aload_n 0, 1) := by decide +kernel
theorem dX8_feed_55 : decode cX8_feed 55 = .ok (.iload_n 3, 1) := by decide +kernel
theorem dX8_feed_56 : decode cX8_feed 56 = .ok (.invokevirtual 198, 3) := by decide +kernel
theorem dX8_feed_59 : decode cX8_feed 59 = .ok (.aload_n 0, 1) := by decide +kernel
theorem dX8_feed_60 : decode cX8_feed 60 = .ok (.iload 4, 2) := by decide +kernel
theorem dX8_feed_62 : decode cX8_feed 62 = .ok (.invokevirtual 198, 3) := by decide +kernel
theorem dX8_feed_65 : decode cX8_feed 65 = .ok (.aload_n 0, 1) := by decide +kernel
theorem dX8_feed_66 : decode cX8_feed 66 = .ok (.iload 5, 2) := by decide +kernel
theorem dX8_feed_68 : decode cX8_feed 68 = .ok (.invokevirtual 198, 3) := by decide +kernel
theorem dX8_feed_71 : decode cX8_feed 71 = .ok (.aload_n 0, 1) := by decide +kernel
theorem dX8_feed_72 : decode cX8_feed 72 = .ok (.getfield 95, 3) := by decide +kernel
theorem dX8_feed_75 : decode cX8_feed 75 = .ok (.ireturn, 1) := by decide +kernel
theorem dX8_end_0 : decode cX8_end 0 = .ok (.aload_n 0, 1) := by decide +kernel
theorem dX8_end_1 : decode cX8_end 1 = .ok (.iconst 0, 1) := by decide +kernel
theorem dX8_end_2 : decode cX8_end 2 = .ok (.putfield 103, 3) := by decide +kernel
theorem dX8_end_5 : decode cX8_end 5 = .ok (.iload_n 1, 1) := by decide +kernel
theorem dX8_end_6 : decode cX8_end 6 = .ok (.ifCond .lt 11, 3) := by decide +kernel
theorem dX8_end_9 : decode cX8_end 9 = .ok (.iload_n 1, 1) := by decide +kernel
theorem dX8_end_10 : decode cX8_end 10 = .ok (.aload_n 0, 1) := by decide +kernel
theorem dX8_end_11 : decode cX8_end 11 = .ok (.getfield 95, 3) := by decide +kernel
theorem dX8_end_14 : decode cX8_end 14 = .ok (.if_icmp .le 5, 3) := by decide +kernel
theorem dX8_end_17 : decode cX8_end 17 = .ok (.iconst 0, 1) := by decide +kernel
theorem dX8_end_18 : decode cX8_end 18 = .ok (.ireturn, 1) := by decide +kernel
theorem dX8_end_19 : decode cX8_end 19 = .ok (.aload_n 0, 1) := by decide +kernel
theorem dX8_end_20 : decode cX8_end 20 = .ok (.iload_n 1, 1) := by decide +kernel
theorem dX8_end_21 : decode cX8_end 21 = .ok (.putfield 95, 3) := by decide +kernel
theorem dX8_end_24 : decode cX8_end 24 = .ok (.iconst 1, 1) := by decide +kernel
theorem dX8_end_25 : decode cX8_end 25 = .ok (.ireturn, 1) := by decide +kernel
theorem dX8_fault_0 : decode cX8_fault 0 = .ok (.aload_n 0, 1) := by decide +kernel
theorem dX8_fault_1 : decode cX8_fault 1 = .ok (.iconst 0, 1) := by decide +kernel
theorem dX8_fault_2 : decode cX8_fault 2 = .ok (.putfield 103, 3) := by decide +kernel
theorem dX8_fault_5 : decode cX8_fault 5 = .ok (.iload_n 1, 1) := by decide +kernel
theorem dX8_fault_6 : decode cX8_fault 6 = .ok (.iconst 0, 1) := by decide +kernel
theorem dX8_fault_7 : decode cX8_fault 7 = .ok (.iconst 2, 1) := by decide +kernel
theorem dX8_fault_8 : decode cX8_fault 8 = .ok (.invokestatic 202, 3) := by decide +kernel
theorem dX8_fault_11 : decode cX8_fault 11 = .ok (.ifCond .eq 16, 3) := by decide +kernel
theorem dX8_fault_14 : decode cX8_fault 14 = .ok (.iload_n 1, 1) := by decide +kernel
theorem dX8_fault_15 : decode cX8_fault 15 = .ok (.ifCond .eq 15, 3) := by decide +kernel
theorem dX8_fault_18 : decode cX8_fault 18 = .ok (.aload_n 0, 1) := by decide +kernel
theorem dX8_fault_19 : decode cX8_fault 19 = .ok (.getfield 95, 3) := by decide +kernel
theorem dX8_fault_22 : decode cX8_fault 22 = .ok (.bipush 80, 2) := by decide +kernel
theorem dX8_fault_24 : decode cX8_fault 24 = .ok (.if_icmp .le 6, 3) := by decide +kernel
theorem dX8_fault_27 : decode cX8_fault 27 = .ok (.bipush (-2), 2) := by decide +kernel
theorem dX8_fault_29 : decode cX8_fault 29 = .ok (.ireturn, 1) := by decide +kernel
theorem dX8_fault_30 : decode cX8_fault 30 = .ok (.aload_n 0, 1) := by decide +kernel
theorem dX8_fault_31 : decode cX8_fault 31 = .ok (.aload_n 0, 1) := by decide +kernel
theorem dX8_fault_32 : decode cX8_fault 32 = .ok (.getfield 26, 3) := by decide +kernel
theorem dX8_fault_35 : decode cX8_fault 35 = .ok (.aload_n 0, 1) := by decide +kernel
theorem dX8_fault_36 : decode cX8_fault 36 = .ok (.getfield 9, 3) := by decide +kernel
theorem dX8_fault_39 : decode cX8_fault 39 = .ok (.iconst 0, 1) := by decide +kernel
theorem dX8_fault_40 : decode cX8_fault 40 = .ok (.aload_n 0, 1) := by decide +kernel
theorem dX8_fault_41 : decode cX8_fault 41 = .ok (.getfield 95, 3) := by decide +kernel
theorem dX8_fault_44 : decode cX8_fault 44 = .ok (.iload_n 1, 1) := by decide +kernel
theorem dX8_fault_45 : decode cX8_fault 45 = .ok (.invokevirtual 206, 3) := by decide +kernel
theorem dX8_fault_48 : decode cX8_fault 48 = .ok (.ireturn, 1) := by decide +kernel
theorem dX8_take_0 : decode cX8_take 0 = .ok (.aload_n 0, 1) := by decide +kernel
theorem dX8_take_1 : decode cX8_take 1 = .ok (.iload_n 1, 1) := by decide +kernel
theorem dX8_take_2 : decode cX8_take 2 = .ok (.invokevirtual 210, 3) := by decide +kernel
theorem dX8_take_5 : decode cX8_take 5 = .ok (.iconst (-1), 1) := by decide +kernel
theorem dX8_take_6 : decode cX8_take 6 = .ok (.if_icmp .eq 5, 3) := by decide +kernel
theorem dX8_take_9 : decode cX8_take 9 = .ok (.iconst 0, 1) := by decide +kernel
theorem dX8_take_10 : decode cX8_take 10 = .ok (.ireturn, 1) := by decide +kernel
theorem dX8_take_11 : decode cX8_take 11 = .ok (.aload_n 0, 1) := by decide +kernel
theorem dX8_take_12 : decode cX8_take 12 = .ok (.iload_n 1, 1) := by decide +kernel
theorem dX8_take_13 : decode cX8_take 13 = .ok (.ifCond .ne 10, 3) := by decide +kernel
theorem dX8_take_16 : decode cX8_take 16 = .ok (.aload_n 0, 1) := by decide +kernel
theorem dX8_take_17 : decode cX8_take 17 = .ok (.getfield 16, 3) := by decide +kernel
theorem dX8_take_20 : decode cX8_take 20 = .ok (.goto 19, 3) := by decide +kernel
theorem dX8_take_23 : decode cX8_take 23 = .ok (.iload_n 1, 1) := by decide +kernel
theorem dX8_take_24 : decode cX8_take 24 = .ok (.iconst 1, 1) := by decide +kernel
theorem dX8_take_25 : decode cX8_take 25 = .ok (.if_icmp .ne 10, 3) := by decide +kernel
theorem dX8_take_28 : decode cX8_take 28 = .ok (.aload_n 0, 1) := by decide +kernel
theorem dX8_take_29 : decode cX8_take 29 = .ok (.getfield 20, 3) := by decide +kernel
theorem dX8_take_32 : decode cX8_take 32 = .ok (.goto 7, 3) := by decide +kernel
theorem dX8_take_35 : decode cX8_take 35 = .ok (.aload_n 0, 1) := by decide +kernel
theorem dX8_take_36 : decode cX8_take 36 = .ok (.getfield 23, 3) := by decide +kernel
theorem dX8_take_39 : decode cX8_take 39 = .ok (.aload_n 0, 1) := by decide +kernel
theorem dX8_take_40 : decode cX8_take 40 = .ok (.getfield 9, 3) := by decide +kernel
theorem dX8_take_43 : decode cX8_take 43 = .ok (.iconst 0, 1) := by decide +kernel
theorem dX8_take_44 : decode cX8_take 44 = .ok (.aload_n 0, 1) := by decide +kernel
theorem dX8_take_45 : decode cX8_take 45 = .ok (.getfield 95, 3) := by decide +kernel
theorem dX8_take_48 : decode cX8_take 48 = .ok (.iload_n 1, 1) := by decide +kernel
theorem dX8_take_49 : decode cX8_take 49 = .ok (.invokevirtual 206, 3) := by decide +kernel
theorem dX8_take_52 : decode cX8_take 52 = .ok (.istore_n 2, 1) := by decide +kernel
theorem dX8_take_53 : decode cX8_take 53 = .ok (.aload_n 0, 1) := by decide +kernel
theorem dX8_take_54 : decode cX8_take 54 = .ok (.iconst 0, 1) := by decide +kernel
theorem dX8_take_55 : decode cX8_take 55 = .ok (.putfield 95, 3) := by decide +kernel
theorem dX8_take_58 : decode cX8_take 58 = .ok (.iload_n 1, 1) := by decide +kernel
theorem dX8_take_59 : decode cX8_take 59 = .ok (.ifCond .ne 8, 3) := by decide +kernel
theorem dX8_take_62 : decode cX8_take 62 = .ok (.aload_n 0, 1) := by decide +kernel
theorem dX8_take_63 : decode cX8_take 63 = .ok (.iconst 0, 1) := by decide +kernel
theorem dX8_take_64 : decode cX8_take 64 = .ok (.putfield 212, 3) := by decide +kernel
theorem dX8_take_67 : decode cX8_take 67 = .ok (.iload_n 1, 1) := by decide +kernel
theorem dX8_take_68 : decode cX8_take 68 = .ok (.iconst 1, 1) := by decide +kernel
theorem dX8_take_69 : decode cX8_take 69 = .ok (.if_icmp .ne 27, 3) := by decide +kernel
theorem dX8_take_72 : decode cX8_take 72 = .ok (.iconst 0, 1) := by decide +kernel
theorem dX8_take_73 : decode cX8_take 73 = .ok (.istore_n 3, 1) := by decide +kernel
theorem dX8_take_74 : decode cX8_take 74 = .ok (.iload_n 3, 1) := by decide +kernel
theorem dX8_take_75 : decode cX8_take 75 = .ok (.aload_n 0, 1) := by decide +kernel
theorem dX8_take_76 : decode cX8_take 76 = .ok (.getfield 39, 3) := by decide +kernel
theorem dX8_take_79 : decode cX8_take 79 = .ok (.arraylength, 1) := by decide +kernel
theorem dX8_take_80 : decode cX8_take 80 = .ok (.if_icmp .ge 16, 3) := by decide +kernel
theorem dX8_take_83 : decode cX8_take 83 = .ok (.aload_n 0, 1) := by decide +kernel
theorem dX8_take_84 : decode cX8_take 84 = .ok (.getfield 39, 3) := by decide +kernel
theorem dX8_take_87 : decode cX8_take 87 = .ok (.iload_n 3, 1) := by decide +kernel
theorem dX8_take_88 : decode cX8_take 88 = .ok (.iconst 0, 1) := by decide +kernel
theorem dX8_take_89 : decode cX8_take 89 = .ok (.bastore, 1) := by decide +kernel
theorem dX8_take_90 : decode cX8_take 90 = .ok (.iinc 3 1, 3) := by decide +kernel
theorem dX8_take_93 : decode cX8_take 93 = .ok (.goto (-19), 3) := by decide +kernel
theorem dX8_take_96 : decode cX8_take 96 = .ok (.iconst 1, 1) := by decide +kernel
theorem dX8_take_97 : decode cX8_take 97 = .ok (.ireturn, 1) := by decide +kernel
theorem dX8_differ_0 : decode cX8_differ 0 = .ok (.aload_n 0, 1) := by decide +kernel
theorem dX8_differ_1 : decode cX8_differ 1 = .ok (.iconst 0, 1) := by decide +kernel
theorem dX8_differ_2 : decode cX8_differ 2 = .ok (.putfield 103, 3) := by decide +kernel
theorem dX8_differ_5 : decode cX8_differ 5 = .ok (.iload_n 1, 1) := by decide +kernel
theorem dX8_differ_6 : decode cX8_differ 6 = .ok (.iconst 0, 1) := by decide +kernel
theorem dX8_differ_7 : decode cX8_differ 7 = .ok (.bipush 25, 2) := by decide +kernel
theorem dX8_differ_9 : decode cX8_differ 9 = .ok (.invokestatic 202, 3) := by decide +kernel
theorem dX8_differ_12 : decode cX8_differ 12 = .ok (.ifCond .eq 33, 3) := by decide +kernel
theorem dX8_differ_15 : decode cX8_differ 15 = .ok (.iload_n 2, 1) := by decide +kernel
theorem dX8_differ_16 : decode cX8_differ 16 = .ok (.iconst 0, 1) := by decide +kernel
theorem dX8_differ_17 : decode cX8_differ 17 = .ok (.bipush 25, 2) := by decide +kernel
theorem dX8_differ_19 : decode cX8_differ 19 = .ok (.invokestatic 202, 3) := by decide +kernel
theorem dX8_differ_22 : decode cX8_differ 22 = .ok (.ifCond .eq 23, 3) := by decide +kernel
theorem dX8_differ_25 : decode cX8_differ 25 = .ok (.iload_n 1, 1) := by decide +kernel
theorem dX8_differ_26 : decode cX8_differ 26 = .ok (.iload_n 2, 1) := by decide +kernel
theorem dX8_differ_27 : decode cX8_differ 27 = .ok (.if_icmp .eq 18, 3) := by decide +kernel
theorem dX8_differ_30 : decode cX8_differ 30 = .ok (.aload_n 0, 1) := by decide +kernel
theorem dX8_differ_31 : decode cX8_differ 31 = .ok (.getfield 39, 3) := by decide +kernel
theorem dX8_differ_34 : decode cX8_differ 34 = .ok (.bipush 26, 2) := by decide +kernel
theorem dX8_differ_36 : decode cX8_differ 36 = .ok (.iload_n 1, 1) := by decide +kernel
theorem dX8_differ_37 : decode cX8_differ 37 = .ok (.imul, 1) := by decide +kernel
theorem dX8_differ_38 : decode cX8_differ 38 = .ok (.iload_n 2, 1) := by decide +kernel
theorem dX8_differ_39 : decode cX8_differ 39 = .ok (.iadd, 1) := by decide +kernel
theorem dX8_differ_40 : decode cX8_differ 40 = .ok (.baload, 1) := by decide +kernel
theorem dX8_differ_41 : decode cX8_differ 41 = .ok (.iload_n 3, 1) := by decide +kernel
theorem dX8_differ_42 : decode cX8_differ 42 = .ok (.if_icmp .ne 5, 3) := by decide +kernel
theorem dX8_differ_45 : decode cX8_differ 45 = .ok (.iconst 0, 1) := by decide +kernel
theorem dX8_differ_46 : decode cX8_differ 46 = .ok (.ireturn, 1) := by decide +kernel
theorem dX8_differ_47 : decode cX8_differ 47 = .ok (.aload_n 0, 1) := by decide +kernel
theorem dX8_differ_48 : decode cX8_differ 48 = .ok (.getfield 39, 3) := by decide +kernel
theorem dX8_differ_51 : decode cX8_differ 51 = .ok (.bipush 26, 2) := by decide +kernel
theorem dX8_differ_53 : decode cX8_differ 53 = .ok (.iload_n 1, 1) := by decide +kernel
theorem dX8_differ_54 : decode cX8_differ 54 = .ok (.imul, 1) := by decide +kernel
theorem dX8_differ_55 : decode cX8_differ 55 = .ok (.iload_n 2, 1) := by decide +kernel
theorem dX8_differ_56 : decode cX8_differ 56 = .ok (.iadd, 1) := by decide +kernel
theorem dX8_differ_57 : decode cX8_differ 57 = .ok (.iload_n 3, 1) := by decide +kernel
theorem dX8_differ_58 : decode cX8_differ 58 = .ok (.bastore, 1) := by decide +kernel
theorem dX8_differ_59 : decode cX8_differ 59 = .ok (.aload_n 0, 1) := by decide +kernel
theorem dX8_differ_60 : decode cX8_differ 60 = .ok (.getfield 39, 3) := by decide +kernel
theorem dX8_differ_63 : decode cX8_differ 63 = .ok (.bipush 26, 2) := by decide +kernel
theorem dX8_differ_65 : decode cX8_differ 65 = .ok (.iload_n 2, 1) := by decide +kernel
theorem dX8_differ_66 : decode cX8_differ 66 = .ok (.imul, 1) := by decide +kernel
theorem dX8_differ_67 : decode cX8_differ 67 = .ok (.iload_n 1, 1) := by decide +kernel
theorem dX8_differ_68 : decode cX8_differ 68 = .ok (.iadd, 1) := by decide +kernel
theorem dX8_differ_69 : decode cX8_differ 69 = .ok (.iload_n 3, 1) := by decide +kernel
theorem dX8_differ_70 : decode cX8_differ 70 = .ok (.bastore, 1) := by decide +kernel
theorem dX8_differ_71 : decode cX8_differ 71 = .ok (.iconst 1, 1) := by decide +kernel
theorem dX8_differ_72 : decode cX8_differ 72 = .ok (.ireturn, 1) := by decide +kernel
theorem dX8_isNode_0 : decode cX8_isNode 0 = .ok (.iload_n 1, 1) := by decide +kernel
theorem dX8_isNode_1 : decode cX8_isNode 1 = .ok (.ifCond .lt 18, 3) := by decide +kernel
theorem dX8_isNode_4 : decode cX8_isNode 4 = .ok (.iload_n 1, 1) := by decide +kernel
theorem dX8_isNode_5 : decode cX8_isNode 5 = .ok (.aload_n 0, 1) := by decide +kernel
theorem dX8_isNode_6 : decode cX8_isNode 6 = .ok (.getfield 16, 3) := by decide +kernel
theorem dX8_isNode_9 : decode cX8_isNode 9 = .ok (.getfield 122, 3) := by decide +kernel
theorem dX8_isNode_12 : decode cX8_isNode 12 = .ok (.if_icmp .ge 7, 3) := by decide +kernel
theorem dX8_isNode_15 : decode cX8_isNode 15 = .ok (.iconst 1, 1) := by decide +kernel
theorem dX8_isNode_16 : decode cX8_isNode 16 = .ok (.goto 4, 3) := by decide +kernel
theorem dX8_isNode_19 : decode cX8_isNode 19 = .ok (.iconst 0, 1) := by decide +kernel
theorem dX8_isNode_20 : decode cX8_isNode 20 = .ok (.ireturn, 1) := by decide +kernel
theorem dX8_nodes_0 : decode cX8_nodes 0 = .ok (.aload_n 0, 1) := by decide +kernel
theorem dX8_nodes_1 : decode cX8_nodes 1 = .ok (.iconst 0, 1) := by decide +kernel
theorem dX8_nodes_2 : decode cX8_nodes 2 = .ok (.putfield 103, 3) := by decide +kernel
theorem dX8_nodes_5 : decode cX8_nodes 5 = .ok (.aload_n 0, 1) := by decide +kernel
theorem dX8_nodes_6 : decode cX8_nodes 6 = .ok (.getfield 16, 3) := by decide +kernel
theorem dX8_nodes_9 : decode cX8_nodes 9 = .ok (.getfield 122, 3) := by decide +kernel
theorem dX8_nodes_12 : decode cX8_nodes 12 = .ok (.ireturn, 1) := by decide +kernel
theorem dX8_isAtomAlike_0 : decode cX8_isAtomAlike 0 = .ok (.aload_n 1, 1) := by decide +kernel
theorem dX8_isAtomAlike_1 : decode cX8_isAtomAlike 1 = .ok (.getfield 191, 3) := by decide +kernel
theorem dX8_isAtomAlike_4 : decode cX8_isAtomAlike 4 = .ok (.iload_n 2, 1) := by decide +kernel
theorem dX8_isAtomAlike_5 : decode cX8_isAtomAlike 5 = .ok (.iaload, 1) := by decide +kernel
theorem dX8_isAtomAlike_6 : decode cX8_isAtomAlike 6 = .ok (.aload_n 1, 1) := by decide +kernel
theorem dX8_isAtomAlike_7 : decode cX8_isAtomAlike 7 = .ok (.getfield 128, 3) := by decide +kernel
theorem dX8_isAtomAlike_10 : decode cX8_isAtomAlike 10 = .ok (.iload_n 2, 1) := by decide +kernel
theorem dX8_isAtomAlike_11 : decode cX8_isAtomAlike 11 = .ok (.iaload, 1) := by decide +kernel
theorem dX8_isAtomAlike_12 : decode cX8_isAtomAlike 12 = .ok (.isub, 1) := by decide +kernel
theorem dX8_isAtomAlike_13 : decode cX8_isAtomAlike 13 = .ok (.istore 5, 2) := by decide +kernel
theorem dX8_isAtomAlike_15 : decode cX8_isAtomAlike 15 = .ok (.iload 5, 2) := by decide +kernel
theorem dX8_isAtomAlike_17 : decode cX8_isAtomAlike 17 = .ok (.aload_n 3, 1) := by decide +kernel
theorem dX8_isAtomAlike_18 : decode cX8_isAtomAlike 18 = .ok (.getfield 191, 3) := by decide +kernel
theorem dX8_isAtomAlike_21 : decode cX8_isAtomAlike 21 = .ok (.iload 4, 2) := by decide +kernel
theorem dX8_isAtomAlike_23 : decode cX8_isAtomAlike 23 = .ok (.iaload, 1) := by decide +kernel
theorem dX8_isAtomAlike_24 : decode cX8_isAtomAlike 24 = .ok (.aload_n 3, 1) := by decide +kernel
theorem dX8_isAtomAlike_25 : decode cX8_isAtomAlike 25 = .ok (.getfield 128, 3) := by decide +kernel
theorem dX8_isAtomAlike_28 : decode cX8_isAtomAlike 28 = .ok (.iload 4, 2) := by decide +kernel
theorem dX8_isAtomAlike_30 : decode cX8_isAtomAlike 30 = .ok (.iaload, 1) := by decide +kernel
theorem dX8_isAtomAlike_31 : decode cX8_isAtomAlike 31 = .ok (.isub, 1) := by decide +kernel
theorem dX8_isAtomAlike_32 : decode cX8_isAtomAlike 32 = .ok (.if_icmp .ne 19, 3) := by decide +kernel
theorem dX8_isAtomAlike_35 : decode cX8_isAtomAlike 35 = .ok (.aload_n 1, 1) := by decide +kernel
theorem dX8_isAtomAlike_36 : decode cX8_isAtomAlike 36 = .ok (.getfield 137, 3) := by decide +kernel
theorem dX8_isAtomAlike_39 : decode cX8_isAtomAlike 39 = .ok (.iload_n 2, 1) := by decide +kernel
theorem dX8_isAtomAlike_40 : decode cX8_isAtomAlike 40 = .ok (.baload, 1) := by decide +kernel
theorem dX8_isAtomAlike_41 : decode cX8_isAtomAlike 41 = .ok (.aload_n 3, 1) := by decide +kernel
theorem dX8_isAtomAlike_42 : decode cX8_isAtomAlike 42 = .ok (.getfield 137, 3) := by decide +kernel
theorem dX8_isAtomAlike_45 : decode cX8_isAtomAlike 45 = .ok (.iload 4, 2) := by decide +kernel
theorem dX8_isAtomAlike_47 : decode cX8_isAtomAlike 47 = .ok (.baload, 1) := by decide +kernel
theorem dX8_isAtomAlike_48 : decode cX8_isAtomAlike 48 = .ok (.if_icmp .eq 5, 3) := by decide +kernel
theorem dX8_isAtomAlike_51 : decode cX8_isAtomAlike 51 = .ok (.iconst 0, 1) := by decide +kernel
theorem dX8_isAtomAlike_52 : decode cX8_isAtomAlike 52 = .ok (.ireturn, 1) := by decide +kernel
theorem dX8_isAtomAlike_53 : decode cX8_isAtomAlike 53 = .ok (.iconst 1, 1) := by decide +kernel
theorem dX8_isAtomAlike_54 : decode cX8_isAtomAlike 54 = .ok (.istore 6, 2) := by decide +kernel
theorem dX8_isAtomAlike_56 : decode cX8_isAtomAlike 56 = .ok (.iconst 0, 1) := by decide +kernel
theorem dX8_isAtomAlike_57 : decode cX8_isAtomAlike 57 = .ok (.istore 7, 2) := by decide +kernel
theorem dX8_isAtomAlike_59 : decode cX8_isAtomAlike 59 = .ok (.iload 7, 2) := by decide +kernel
theorem dX8_isAtomAlike_61 : decode cX8_isAtomAlike 61 = .ok (.iload 5, 2) := by decide +kernel
theorem dX8_isAtomAlike_63 : decode cX8_isAtomAlike 63 = .ok (.if_icmp .ge 53, 3) := by decide +kernel
theorem dX8_isAtomAlike_66 : decode cX8_isAtomAlike 66 = .ok (.iload 6, 2) := by decide +kernel
theorem dX8_isAtomAlike_68 : decode cX8_isAtomAlike 68 = .ok (.ifCond .eq 39, 3) := by decide +kernel
theorem dX8_isAtomAlike_71 : decode cX8_isAtomAlike 71 = .ok (.aload_n 1, 1) := by decide +kernel
theorem dX8_isAtomAlike_72 : decode cX8_isAtomAlike 72 = .ok (.getfield 113, 3) := by decide +kernel
theorem dX8_isAtomAlike_75 : decode cX8_isAtomAlike 75 = .ok (.aload_n 1, 1) := by decide +kernel
theorem dX8_isAtomAlike_76 : decode cX8_isAtomAlike 76 = .ok (.getfield 128, 3) := by decide +kernel
theorem dX8_isAtomAlike_79 : decode cX8_isAtomAlike 79 = .ok (.iload_n 2, 1) := by decide +kernel
theorem dX8_isAtomAlike_80 : decode cX8_isAtomAlike 80 = .ok (.iaload, 1) := by decide +kernel
theorem dX8_isAtomAlike_81 : decode cX8_isAtomAlike 81 = .ok (.iload 7, 2) := by decide +kernel
theorem dX8_isAtomAlike_83 : decode cX8_isAtomAlike 83 = .ok (.iadd, 1) := by decide +kernel
theorem dX8_isAtomAlike_84 : decode cX8_isAtomAlike 84 = .ok (.baload, 1) := by decide +kernel
theorem dX8_isAtomAlike_85 : decode cX8_isAtomAlike 85 = .ok (.aload_n 3, 1) := by decide +kernel
theorem dX8_isAtomAlike_86 : decode cX8_isAtomAlike 86 = .ok (.getfield 113, 3) := by decide +kernel
theorem dX8_isAtomAlike_89 : decode cX8_isAtomAlike 89 = .ok (.aload_n 3, 1) := by decide +kernel
theorem dX8_isAtomAlike_90 : decode cX8_isAtomAlike 90 = .ok (.getfield 128, 3) := by decide +kernel
theorem dX8_isAtomAlike_93 : decode cX8_isAtomAlike 93 = .ok (.iload 4, 2) := by decide +kernel
theorem dX8_isAtomAlike_95 : decode cX8_isAtomAlike 95 = .ok (.iaload, 1) := by decide +kernel
theorem dX8_isAtomAlike_96 : decode cX8_isAtomAlike 96 = .ok (.iload 7, 2) := by decide +kernel
theorem dX8_isAtomAlike_98 : decode cX8_isAtomAlike 98 = .ok (.iadd, 1) := by decide +kernel
theorem dX8_isAtomAlike_99 : decode cX8_isAtomAlike 99 = .ok (.baload, 1) := by decide +kernel
theorem dX8_isAtomAlike_100 : decode cX8_isAtomAlike 100 = .ok (.if_icmp .ne 7, 3) := by decide +kernel
theorem dX8_isAtomAlike_103 : decode cX8_isAtomAlike 103 = .ok (.iconst 1, 1) := by decide +kernel
theorem dX8_isAtomAlike_104 : decode cX8_isAtomAlike 104 = .ok (.goto 4, 3) := by decide +kernel
theorem dX8_isAtomAlike_107 : decode cX8_isAtomAlike 107 = .ok (.iconst 0, 1) := by decide +kernel
theorem dX8_isAtomAlike_108 : decode cX8_isAtomAlike 108 = .ok (.istore 6, 2) := by decide +kernel
theorem dX8_isAtomAlike_110 : decode cX8_isAtomAlike 110 = .ok (.iinc 7 1, 3) := by decide +kernel
theorem dX8_isAtomAlike_113 : decode cX8_isAtomAlike 113 = .ok (.goto (-54), 3) := by decide +kernel
theorem dX8_isAtomAlike_116 : decode cX8_isAtomAlike 116 = .ok (.iload 6, 2) := by decide +kernel
theorem dX8_isAtomAlike_118 : decode cX8_isAtomAlike 118 = .ok (.ireturn, 1) := by decide +kernel
theorem dX8_areAlike_0 : decode cX8_areAlike 0 = .ok (.aload_n 0, 1) := by decide +kernel
theorem dX8_areAlike_1 : decode cX8_areAlike 1 = .ok (.aload_n 0, 1) := by decide +kernel
theorem dX8_areAlike_2 : decode cX8_areAlike 2 = .ok (.getfield 16, 3) := by decide +kernel
theorem dX8_areAlike_5 : decode cX8_areAlike 5 = .ok (.iload_n 1, 1) := by decide +kernel
theorem dX8_areAlike_6 : decode cX8_areAlike 6 = .ok (.aload_n 0, 1) := by decide +kernel
theorem dX8_areAlike_7 : decode cX8_areAlike 7 = .ok (.getfield 16, 3) := by decide +kernel
theorem dX8_areAlike_10 : decode cX8_areAlike 10 = .ok (.iload_n 2, 1) := by decide +kernel
theorem dX8_areAlike_11 : decode cX8_areAlike 11 = .ok (.invokevirtual 215, 3) := by decide +kernel
theorem dX8_areAlike_14 : decode cX8_areAlike 14 = .ok (.ifCond .eq 24, 3) := by decide +kernel
theorem dX8_areAlike_17 : decode cX8_areAlike 17 = .ok (.aload_n 0, 1) := by decide +kernel
theorem dX8_areAlike_18 : decode cX8_areAlike 18 = .ok (.getfield 16, 3) := by decide +kernel
theorem dX8_areAlike_21 : decode cX8_areAlike 21 = .ok (.getfield 134, 3) := by decide +kernel
theorem dX8_areAlike_24 : decode cX8_areAlike 24 = .ok (.iload_n 1, 1) := by decide +kernel
theorem dX8_areAlike_25 : decode cX8_areAlike 25 = .ok (.iaload, 1) := by decide +kernel
theorem dX8_areAlike_26 : decode cX8_areAlike 26 = .ok (.aload_n 0, 1) := by decide +kernel
theorem dX8_areAlike_27 : decode cX8_areAlike 27 = .ok (.getfield 16, 3) := by decide +kernel
theorem dX8_areAlike_30 : decode cX8_areAlike 30 = .ok (.getfield 134, 3) := by decide +kernel
theorem dX8_areAlike_33 : decode cX8_areAlike 33 = .ok (.iload_n 2, 1) := by decide +kernel
theorem dX8_areAlike_34 : decode cX8_areAlike 34 = .ok (.iaload, 1) := by decide +kernel
theorem dX8_areAlike_35 : decode cX8_areAlike 35 = .ok (.if_icmp .eq 5, 3) := by decide +kernel
theorem dX8_areAlike_38 : decode cX8_areAlike 38 = .ok (.iconst 0, 1) := by decide +kernel
theorem dX8_areAlike_39 : decode cX8_areAlike 39 = .ok (.ireturn, 1) := by decide +kernel
theorem dX8_areAlike_40 : decode cX8_areAlike 40 = .ok (.iconst 1, 1) := by decide +kernel
theorem dX8_areAlike_41 : decode cX8_areAlike 41 = .ok (.istore_n 3, 1) := by decide +kernel
theorem dX8_areAlike_42 : decode cX8_areAlike 42 = .ok (.iconst 0, 1) := by decide +kernel
theorem dX8_areAlike_43 : decode cX8_areAlike 43 = .ok (.istore 4, 2) := by decide +kernel
theorem dX8_areAlike_45 : decode cX8_areAlike 45 = .ok (.iload 4, 2) := by decide +kernel
theorem dX8_areAlike_47 : decode cX8_areAlike 47 = .ok (.aload_n 0, 1) := by decide +kernel
theorem dX8_areAlike_48 : decode cX8_areAlike 48 = .ok (.getfield 16, 3) := by decide +kernel
theorem dX8_areAlike_51 : decode cX8_areAlike 51 = .ok (.getfield 134, 3) := by decide +kernel
theorem dX8_areAlike_54 : decode cX8_areAlike 54 = .ok (.iload_n 1, 1) := by decide +kernel
theorem dX8_areAlike_55 : decode cX8_areAlike 55 = .ok (.iaload, 1) := by decide +kernel
theorem dX8_areAlike_56 : decode cX8_areAlike 56 = .ok (.if_icmp .ge 38, 3) := by decide +kernel
theorem dX8_areAlike_59 : decode cX8_areAlike 59 = .ok (.iload_n 3, 1) := by decide +kernel
theorem dX8_areAlike_60 : decode cX8_areAlike 60 = .ok (.ifCond .eq 34, 3) := by decide +kernel
theorem dX8_areAlike_63 : decode cX8_areAlike 63 = .ok (.aload_n 0, 1) := by decide +kernel
theorem dX8_areAlike_64 : decode cX8_areAlike 64 = .ok (.aload_n 0, 1) := by decide +kernel
theorem dX8_areAlike_65 : decode cX8_areAlike 65 = .ok (.getfield 16, 3) := by decide +kernel
theorem dX8_areAlike_68 : decode cX8_areAlike 68 = .ok (.iload_n 1, 1) := by decide +kernel
theorem dX8_areAlike_69 : decode cX8_areAlike 69 = .ok (.iload 4, 2) := by decide +kernel
theorem dX8_areAlike_71 : decode cX8_areAlike 71 = .ok (.invokevirtual 219, 3) := by decide +kernel
theorem dX8_areAlike_74 : decode cX8_areAlike 74 = .ok (.aload_n 0, 1) := by decide +kernel
theorem dX8_areAlike_75 : decode cX8_areAlike 75 = .ok (.getfield 16, 3) := by decide +kernel
theorem dX8_areAlike_78 : decode cX8_areAlike 78 = .ok (.iload_n 2, 1) := by decide +kernel
theorem dX8_areAlike_79 : decode cX8_areAlike 79 = .ok (.iload 4, 2) := by decide +kernel
theorem dX8_areAlike_81 : decode cX8_areAlike 81 = .ok (.invokevirtual 219, 3) := by decide +kernel
theorem dX8_areAlike_84 : decode cX8_areAlike 84 = .ok (.invokevirtual 221, 3) := by decide +kernel
theorem dX8_areAlike_87 : decode cX8_areAlike 87 = .ok (.istore_n 3, 1) := by decide +kernel
theorem dX8_areAlike_88 : decode cX8_areAlike 88 = .ok (.iinc 4 1, 3) := by decide +kernel
theorem dX8_areAlike_91 : decode cX8_areAlike 91 = .ok (.goto (-46), 3) := by decide +kernel
theorem dX8_areAlike_94 : decode cX8_areAlike 94 = .ok (.iload_n 3, 1) := by decide +kernel
theorem dX8_areAlike_95 : decode cX8_areAlike 95 = .ok (.ireturn, 1) := by decide +kernel
theorem dX8_alike_0 : decode cX8_alike 0 = .ok (.aload_n 0, 1) := by decide +kernel
theorem dX8_alike_1 : decode cX8_alike 1 = .ok (.iconst 0, 1) := by decide +kernel
theorem dX8_alike_2 : decode cX8_alike 2 = .ok (.putfield 103, 3) := by decide +kernel
theorem dX8_alike_5 : decode cX8_alike 5 = .ok (.aload_n 0, 1) := by decide +kernel
theorem dX8_alike_6 : decode cX8_alike 6 = .ok (.iload_n 1, 1) := by decide +kernel
theorem dX8_alike_7 : decode cX8_alike 7 = .ok (.invokevirtual 224, 3) := by decide +kernel
theorem dX8_alike_10 : decode cX8_alike 10 = .ok (.ifCond .eq 24, 3) := by decide +kernel
theorem dX8_alike_13 : decode cX8_alike 13 = .ok (.aload_n 0, 1) := by decide +kernel
theorem dX8_alike_14 : decode cX8_alike 14 = .ok (.iload_n 2, 1) := by decide +kernel
theorem dX8_alike_15 : decode cX8_alike 15 = .ok (.invokevirtual 224, 3) := by decide +kernel
theorem dX8_alike_18 : decode cX8_alike 18 = .ok (.ifCond .eq 16, 3) := by decide +kernel
theorem dX8_alike_21 : decode cX8_alike 21 = .ok (.aload_n 0, 1) := by decide +kernel
theorem dX8_alike_22 : decode cX8_alike 22 = .ok (.iload_n 1, 1) := by decide +kernel
theorem dX8_alike_23 : decode cX8_alike 23 = .ok (.iload_n 2, 1) := by decide +kernel
theorem dX8_alike_24 : decode cX8_alike 24 = .ok (.invokevirtual 221, 3) := by decide +kernel
theorem dX8_alike_27 : decode cX8_alike 27 = .ok (.ifCond .eq 7, 3) := by decide +kernel
theorem dX8_alike_30 : decode cX8_alike 30 = .ok (.iconst 1, 1) := by decide +kernel
theorem dX8_alike_31 : decode cX8_alike 31 = .ok (.goto 4, 3) := by decide +kernel
theorem dX8_alike_34 : decode cX8_alike 34 = .ok (.iconst 0, 1) := by decide +kernel
theorem dX8_alike_35 : decode cX8_alike 35 = .ok (.ireturn, 1) := by decide +kernel
theorem dX8_isWithin_0 : decode cX8_isWithin 0 = .ok (.iload_n 1, 1) := by decide +kernel
theorem dX8_isWithin_1 : decode cX8_isWithin 1 = .ok (.istore_n 3, 1) := by decide +kernel
theorem dX8_isWithin_2 : decode cX8_isWithin 2 = .ok (.iload_n 3, 1) := by decide +kernel
theorem dX8_isWithin_3 : decode cX8_isWithin 3 = .ok (.iconst (-1), 1) := by decide +kernel
theorem dX8_isWithin_4 : decode cX8_isWithin 4 = .ok (.if_icmp .eq 21, 3) := by decide +kernel
theorem dX8_isWithin_7 : decode cX8_isWithin 7 = .ok (.iload_n 3, 1) := by decide +kernel
theorem dX8_isWithin_8 : decode cX8_isWithin 8 = .ok (.iload_n 2, 1) := by decide +kernel
theorem dX8_isWithin_9 : decode cX8_isWithin 9 = .ok (.if_icmp .eq 16, 3) := by decide +kernel
theorem dX8_isWithin_12 : decode cX8_isWithin 12 = .ok (.aload_n 0, 1) := by decide +kernel
theorem dX8_isWithin_13 : decode cX8_isWithin 13 = .ok (.getfield 16, 3) := by decide +kernel
theorem dX8_isWithin_16 : decode cX8_isWithin 16 = .ok (.getfield 131, 3) := by decide +kernel
theorem dX8_isWithin_19 : decode cX8_isWithin 19 = .ok (.iload_n 3, 1) := by decide +kernel
theorem dX8_isWithin_20 : decode cX8_isWithin 20 = .ok (.iaload, 1) := by decide +kernel
theorem dX8_isWithin_21 : decode cX8_isWithin 21 = .ok (.istore_n 3, 1) := by decide +kernel
theorem dX8_isWithin_22 : decode cX8_isWithin 22 = .ok (.goto (-20), 3) := by decide +kernel
theorem dX8_isWithin_25 : decode cX8_isWithin 25 = .ok (.iload_n 3, 1) := by decide +kernel
theorem dX8_isWithin_26 : decode cX8_isWithin 26 = .ok (.iload_n 2, 1) := by decide +kernel
theorem dX8_isWithin_27 : decode cX8_isWithin 27 = .ok (.if_icmp .ne 7, 3) := by decide +kernel
theorem dX8_isWithin_30 : decode cX8_isWithin 30 = .ok (.iconst 1, 1) := by decide +kernel
theorem dX8_isWithin_31 : decode cX8_isWithin 31 = .ok (.goto 4, 3) := by decide +kernel
theorem dX8_isWithin_34 : decode cX8_isWithin 34 = .ok (.iconst 0, 1) := by decide +kernel
theorem dX8_isWithin_35 : decode cX8_isWithin 35 = .ok (.ireturn, 1) := by decide +kernel
theorem dX8_task_0 : decode cX8_task 0 = .ok (.aload_n 0, 1) := by decide +kernel
theorem dX8_task_1 : decode cX8_task 1 = .ok (.getfield 227, 3) := by decide +kernel
theorem dX8_task_4 : decode cX8_task 4 = .ok (.istore 6, 2) := by decide +kernel
theorem dX8_task_6 : decode cX8_task 6 = .ok (.aload_n 0, 1) := by decide +kernel
theorem dX8_task_7 : decode cX8_task 7 = .ok (.dup, 1) := by decide +kernel
theorem dX8_task_8 : decode cX8_task 8 = .ok (.getfield 227, 3) := by decide +kernel
theorem dX8_task_11 : decode cX8_task 11 = .ok (.iconst 1, 1) := by decide +kernel
theorem dX8_task_12 : decode cX8_task 12 = .ok (.iadd, 1) := by decide +kernel
theorem dX8_task_13 : decode cX8_task 13 = .ok (.putfield 227, 3) := by decide +kernel
theorem dX8_task_16 : decode cX8_task 16 = .ok (.aload_n 0, 1) := by decide +kernel
theorem dX8_task_17 : decode cX8_task 17 = .ok (.getfield 46, 3) := by decide +kernel
theorem dX8_task_20 : decode cX8_task 20 = .ok (.iload 6, 2) := by decide +kernel
theorem dX8_task_22 : decode cX8_task 22 = .ok (.iload_n 1, 1) := by decide +kernel
theorem dX8_task_23 : decode cX8_task 23 = .ok (.iastore, 1) := by decide +kernel
theorem dX8_task_24 : decode cX8_task 24 = .ok (.aload_n 0, 1) := by decide +kernel
theorem dX8_task_25 : decode cX8_task 25 = .ok (.getfield 49, 3) := by decide +kernel
theorem dX8_task_28 : decode cX8_task 28 = .ok (.iload 6, 2) := by decide +kernel
theorem dX8_task_30 : decode cX8_task 30 = .ok (.iload_n 2, 1) := by decide +kernel
theorem dX8_task_31 : decode cX8_task 31 = .ok (.iastore, 1) := by decide +kernel
theorem dX8_task_32 : decode cX8_task 32 = .ok (.aload_n 0, 1) := by decide +kernel
theorem dX8_task_33 : decode cX8_task 33 = .ok (.getfield 52, 3) := by decide +kernel
theorem dX8_task_36 : decode cX8_task 36 = .ok (.iload 6, 2) := by decide +kernel
theorem dX8_task_38 : decode cX8_task 38 = .ok (.iload_n 3, 1) := by decide +kernel
theorem dX8_task_39 : decode cX8_task 39 = .ok (.iastore, 1) := by decide +kernel
theorem dX8_task_40 : decode cX8_task 40 = .ok (.aload_n 0, 1) := by decide +kernel
theorem dX8_task_41 : decode cX8_task 41 = .ok (.getfield 55, 3) := by decide +kernel
theorem dX8_task_44 : decode cX8_task 44 = .ok (.iload 6, 2) := by decide +kernel
theorem dX8_task_46 : decode cX8_task 46 = .ok (.iload 4, 2) := by decide +kernel
theorem dX8_task_48 : decode cX8_task 48 = .ok (.iastore, 1) := by decide +kernel
theorem dX8_task_49 : decode cX8_task 49 = .ok (.aload_n 0, 1) := by decide +kernel
theorem dX8_task_50 : decode cX8_task 50 = .ok (.getfield 58, 3) := by decide +kernel
theorem dX8_task_53 : decode cX8_task 53 = .ok (.iload 6, 2) := by decide +kernel
theorem dX8_task_55 : decode cX8_task 55 = .ok (.iload 5, 2) := by decide +kernel
theorem dX8_task_57 : decode cX8_task 57 = .ok (.iastore, 1) := by decide +kernel
theorem dX8_task_58 : decode cX8_task 58 = .ok (.iload 6, 2) := by decide +kernel
theorem dX8_task_60 : decode cX8_task 60 = .ok (.ireturn, 1) := by decide +kernel
theorem dX8_differAll_0 : decode cX8_differAll 0 = .ok (.iconst 0, 1) := by decide +kernel
theorem dX8_differAll_1 : decode cX8_differAll 1 = .ok (.istore_n 1, 1) := by decide +kernel
theorem dX8_differAll_2 : decode cX8_differAll 2 = .ok (.iload_n 1, 1) := by decide +kernel
theorem dX8_differAll_3 : decode cX8_differAll 3 = .ok (.bipush 26, 2) := by decide +kernel
theorem dX8_differAll_5 : decode cX8_differAll 5 = .ok (.if_icmp .ge 77, 3) := by decide +kernel
theorem dX8_differAll_8 : decode cX8_differAll 8 = .ok (.iconst 0, 1) := by decide +kernel
theorem dX8_differAll_9 : decode cX8_differAll 9 = .ok (.istore_n 2, 1) := by decide +kernel
theorem dX8_differAll_10 : decode cX8_differAll 10 = .ok (.iload_n 2, 1) := by decide +kernel
theorem dX8_differAll_11 : decode cX8_differAll 11 = .ok (.iload_n 1, 1) := by decide +kernel
theorem dX8_differAll_12 : decode cX8_differAll 12 = .ok (.if_icmp .ge 64, 3) := by decide +kernel
theorem dX8_differAll_15 : decode cX8_differAll 15 = .ok (.aload_n 0, 1) := by decide +kernel
theorem dX8_differAll_16 : decode cX8_differAll 16 = .ok (.getfield 39, 3) := by decide +kernel
theorem dX8_differAll_19 : decode cX8_differAll 19 = .ok (.bipush 26, 2) := by decide +kernel
theorem dX8_differAll_21 : decode cX8_differAll 21 = .ok (.iload_n 1, 1) := by decide +kernel
theorem dX8_differAll_22 : decode cX8_differAll 22 = .ok (.imul, 1) := by decide +kernel
theorem dX8_differAll_23 : decode cX8_differAll 23 = .ok (.iload_n 2, 1) := by decide +kernel
theorem dX8_differAll_24 : decode cX8_differAll 24 = .ok (.iadd, 1) := by decide +kernel
theorem dX8_differAll_25 : decode cX8_differAll 25 = .ok (.baload, 1) := by decide +kernel
theorem dX8_differAll_26 : decode cX8_differAll 26 = .ok (.ifCond .eq 44, 3) := by decide +kernel
theorem dX8_differAll_29 : decode cX8_differAll 29 = .ok (.aload_n 0, 1) := by decide +kernel
theorem dX8_differAll_30 : decode cX8_differAll 30 = .ok (.getfield 61, 3) := by decide +kernel
theorem dX8_differAll_33 : decode cX8_differAll 33 = .ok (.iload_n 1, 1) := by decide +kernel
theorem dX8_differAll_34 : decode cX8_differAll 34 = .ok (.iaload, 1) := by decide +kernel
theorem dX8_differAll_35 : decode cX8_differAll 35 = .ok (.iconst (-1), 1) := by decide +kernel
theorem dX8_differAll_36 : decode cX8_differAll 36 = .ok (.if_icmp .eq 34, 3) := by decide +kernel
theorem dX8_differAll_39 : decode cX8_differAll 39 = .ok (.aload_n 0, 1) := by decide +kernel
theorem dX8_differAll_40 : decode cX8_differAll 40 = .ok (.getfield 61, 3) := by decide +kernel
theorem dX8_differAll_43 : decode cX8_differAll 43 = .ok (.iload_n 2, 1) := by decide +kernel
theorem dX8_differAll_44 : decode cX8_differAll 44 = .ok (.iaload, 1) := by decide +kernel
theorem dX8_differAll_45 : decode cX8_differAll 45 = .ok (.iconst (-1), 1) := by decide +kernel
theorem dX8_differAll_46 : decode cX8_differAll 46 = .ok (.if_icmp .eq 24, 3) := by decide +kernel
theorem dX8_differAll_49 : decode cX8_differAll 49 = .ok (.aload_n 0, 1) := by decide +kernel
theorem dX8_differAll_50 : decode cX8_differAll 50 = .ok (.aload_n 0, 1) := by decide +kernel
theorem dX8_differAll_51 : decode cX8_differAll 51 = .ok (.getfield 61, 3) := by decide +kernel
theorem dX8_differAll_54 : decode cX8_differAll 54 = .ok (.iload_n 1, 1) := by decide +kernel
theorem dX8_differAll_55 : decode cX8_differAll 55 = .ok (.iaload, 1) := by decide +kernel
theorem dX8_differAll_56 : decode cX8_differAll 56 = .ok (.aload_n 0, 1) := by decide +kernel
theorem dX8_differAll_57 : decode cX8_differAll 57 = .ok (.getfield 61, 3) := by decide +kernel
