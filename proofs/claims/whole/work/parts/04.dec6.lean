theorem dX8_strike_28 : decode cX8_strike 28 = .ok (.iload_n 1, 1) := by decide +kernel
theorem dX8_strike_29 : decode cX8_strike 29 = .ok (.aload_n 0, 1) := by decide +kernel
theorem dX8_strike_30 : decode cX8_strike 30 = .ok (.getfield 23, 3) := by decide +kernel
theorem dX8_strike_33 : decode cX8_strike 33 = .ok (.getfield 122, 3) := by decide +kernel
theorem dX8_strike_36 : decode cX8_strike 36 = .ok (.if_icmp .ge 16, 3) := by decide +kernel
theorem dX8_strike_39 : decode cX8_strike 39 = .ok (.aload_n 0, 1) := by decide +kernel
theorem dX8_strike_40 : decode cX8_strike 40 = .ok (.getfield 92, 3) := by decide +kernel
theorem dX8_strike_43 : decode cX8_strike 43 = .ok (.iload_n 1, 1) := by decide +kernel
theorem dX8_strike_44 : decode cX8_strike 44 = .ok (.iconst 0, 1) := by decide +kernel
theorem dX8_strike_45 : decode cX8_strike 45 = .ok (.bastore, 1) := by decide +kernel
theorem dX8_strike_46 : decode cX8_strike 46 = .ok (.iinc 1 1, 3) := by decide +kernel
theorem dX8_strike_49 : decode cX8_strike 49 = .ok (.goto (-21), 3) := by decide +kernel
theorem dX8_strike_52 : decode cX8_strike 52 = .ok (.iconst 0, 1) := by decide +kernel
theorem dX8_strike_53 : decode cX8_strike 53 = .ok (.istore_n 1, 1) := by decide +kernel
theorem dX8_strike_54 : decode cX8_strike 54 = .ok (.iload_n 1, 1) := by decide +kernel
theorem dX8_strike_55 : decode cX8_strike 55 = .ok (.aload_n 0, 1) := by decide +kernel
theorem dX8_strike_56 : decode cX8_strike 56 = .ok (.getfield 23, 3) := by decide +kernel
theorem dX8_strike_59 : decode cX8_strike 59 = .ok (.getfield 122, 3) := by decide +kernel
theorem dX8_strike_62 : decode cX8_strike 62 = .ok (.if_icmp .ge 221, 3) := by decide +kernel
theorem dX8_strike_65 : decode cX8_strike 65 = .ok (.aload_n 0, 1) := by decide +kernel
theorem dX8_strike_66 : decode cX8_strike 66 = .ok (.getfield 23, 3) := by decide +kernel
theorem dX8_strike_69 : decode cX8_strike 69 = .ok (.getfield 125, 3) := by decide +kernel
theorem dX8_strike_72 : decode cX8_strike 72 = .ok (.iload_n 1, 1) := by decide +kernel
theorem dX8_strike_73 : decode cX8_strike 73 = .ok (.iaload, 1) := by decide +kernel
theorem dX8_strike_74 : decode cX8_strike 74 = .ok (.iconst 2, 1) := by decide +kernel
theorem dX8_strike_75 : decode cX8_strike 75 = .ok (.if_icmp .ne 202, 3) := by decide +kernel
theorem dX8_strike_78 : decode cX8_strike 78 = .ok (.aload_n 0, 1) := by decide +kernel
theorem dX8_strike_79 : decode cX8_strike 79 = .ok (.getfield 67, 3) := by decide +kernel
theorem dX8_strike_82 : decode cX8_strike 82 = .ok (.aload_n 0, 1) := by decide +kernel
theorem dX8_strike_83 : decode cX8_strike 83 = .ok (.getfield 23, 3) := by decide +kernel
theorem dX8_strike_86 : decode cX8_strike 86 = .ok (.getfield 140, 3) := by decide +kernel
theorem dX8_strike_89 : decode cX8_strike 89 = .ok (.iload_n 1, 1) := by decide +kernel
theorem dX8_strike_90 : decode cX8_strike 90 = .ok (.iaload, 1) := by decide +kernel
theorem dX8_strike_91 : decode cX8_strike 91 = .ok (.iaload, 1) := by decide +kernel
theorem dX8_strike_92 : decode cX8_strike 92 = .ok (.ifCond .le 6, 3) := by decide +kernel
theorem dX8_strike_95 : decode cX8_strike 95 = .ok (.goto 182, 3) := by decide +kernel
theorem dX8_strike_98 : decode cX8_strike 98 = .ok (.iconst (-1), 1) := by decide +kernel
theorem dX8_strike_99 : decode cX8_strike 99 = .ok (.istore_n 2, 1) := by decide +kernel
theorem dX8_strike_100 : decode cX8_strike 100 = .ok (.iconst (-1), 1) := by decide +kernel
theorem dX8_strike_101 : decode cX8_strike 101 = .ok (.istore_n 3, 1) := by decide +kernel
theorem dX8_strike_102 : decode cX8_strike 102 = .ok (.iconst 0, 1) := by decide +kernel
theorem dX8_strike_103 : decode cX8_strike 103 = .ok (.istore 4, 2) := by decide +kernel
theorem dX8_strike_105 : decode cX8_strike 105 = .ok (.iload 4, 2) := by decide +kernel
theorem dX8_strike_107 : decode cX8_strike 107 = .ok (.aload_n 0, 1) := by decide +kernel
theorem dX8_strike_108 : decode cX8_strike 108 = .ok (.getfield 23, 3) := by decide +kernel
theorem dX8_strike_111 : decode cX8_strike 111 = .ok (.getfield 122, 3) := by decide +kernel
theorem dX8_strike_114 : decode cX8_strike 114 = .ok (.if_icmp .ge 70, 3) := by decide +kernel
theorem dX8_strike_117 : decode cX8_strike 117 = .ok (.aload_n 0, 1) := by decide +kernel
theorem dX8_strike_118 : decode cX8_strike 118 = .ok (.getfield 23, 3) := by decide +kernel
theorem dX8_strike_121 : decode cX8_strike 121 = .ok (.getfield 131, 3) := by decide +kernel
theorem dX8_strike_124 : decode cX8_strike 124 = .ok (.iload 4, 2) := by decide +kernel
theorem dX8_strike_126 : decode cX8_strike 126 = .ok (.iaload, 1) := by decide +kernel
theorem dX8_strike_127 : decode cX8_strike 127 = .ok (.aload_n 0, 1) := by decide +kernel
theorem dX8_strike_128 : decode cX8_strike 128 = .ok (.getfield 23, 3) := by decide +kernel
theorem dX8_strike_131 : decode cX8_strike 131 = .ok (.getfield 131, 3) := by decide +kernel
theorem dX8_strike_134 : decode cX8_strike 134 = .ok (.iload_n 1, 1) := by decide +kernel
theorem dX8_strike_135 : decode cX8_strike 135 = .ok (.iaload, 1) := by decide +kernel
theorem dX8_strike_136 : decode cX8_strike 136 = .ok (.if_icmp .ne 42, 3) := by decide +kernel
theorem dX8_strike_139 : decode cX8_strike 139 = .ok (.iload 4, 2) := by decide +kernel
theorem dX8_strike_141 : decode cX8_strike 141 = .ok (.iload_n 1, 1) := by decide +kernel
theorem dX8_strike_142 : decode cX8_strike 142 = .ok (.if_icmp .eq 36, 3) := by decide +kernel
theorem dX8_strike_145 : decode cX8_strike 145 = .ok (.aload_n 0, 1) := by decide +kernel
theorem dX8_strike_146 : decode cX8_strike 146 = .ok (.getfield 92, 3) := by decide +kernel
theorem dX8_strike_149 : decode cX8_strike 149 = .ok (.iload 4, 2) := by decide +kernel
theorem dX8_strike_151 : decode cX8_strike 151 = .ok (.baload, 1) := by decide +kernel
theorem dX8_strike_152 : decode cX8_strike 152 = .ok (.ifCond .eq 6, 3) := by decide +kernel
theorem dX8_strike_155 : decode cX8_strike 155 = .ok (.goto 23, 3) := by decide +kernel
theorem dX8_strike_158 : decode cX8_strike 158 = .ok (.iload 4, 2) := by decide +kernel
theorem dX8_strike_160 : decode cX8_strike 160 = .ok (.iload_n 1, 1) := by decide +kernel
theorem dX8_strike_161 : decode cX8_strike 161 = .ok (.if_icmp .ge 9, 3) := by decide +kernel
theorem dX8_strike_164 : decode cX8_strike 164 = .ok (.iload 4, 2) := by decide +kernel
theorem dX8_strike_166 : decode cX8_strike 166 = .ok (.istore_n 2, 1) := by decide +kernel
theorem dX8_strike_167 : decode cX8_strike 167 = .ok (.goto 11, 3) := by decide +kernel
theorem dX8_strike_170 : decode cX8_strike 170 = .ok (.iload_n 3, 1) := by decide +kernel
theorem dX8_strike_171 : decode cX8_strike 171 = .ok (.iconst (-1), 1) := by decide +kernel
theorem dX8_strike_172 : decode cX8_strike 172 = .ok (.if_icmp .ne 6, 3) := by decide +kernel
theorem dX8_strike_175 : decode cX8_strike 175 = .ok (.iload 4, 2) := by decide +kernel
theorem dX8_strike_177 : decode cX8_strike 177 = .ok (.istore_n 3, 1) := by decide +kernel
theorem dX8_strike_178 : decode cX8_strike 178 = .ok (.iinc 4 1, 3) := by decide +kernel
theorem dX8_strike_181 : decode cX8_strike 181 = .ok (.goto (-76), 3) := by decide +kernel
theorem dX8_strike_184 : decode cX8_strike 184 = .ok (.iload_n 3, 1) := by decide +kernel
theorem dX8_strike_185 : decode cX8_strike 185 = .ok (.iconst (-1), 1) := by decide +kernel
theorem dX8_strike_186 : decode cX8_strike 186 = .ok (.if_icmp .ne 8, 3) := by decide +kernel
theorem dX8_strike_189 : decode cX8_strike 189 = .ok (.iload_n 2, 1) := by decide +kernel
theorem dX8_strike_190 : decode cX8_strike 190 = .ok (.iconst (-1), 1) := by decide +kernel
theorem dX8_strike_191 : decode cX8_strike 191 = .ok (.if_icmp .ne 15, 3) := by decide +kernel
theorem dX8_strike_194 : decode cX8_strike 194 = .ok (.aload_n 0, 1) := by decide +kernel
theorem dX8_strike_195 : decode cX8_strike 195 = .ok (.getfield 23, 3) := by decide +kernel
theorem dX8_strike_198 : decode cX8_strike 198 = .ok (.getfield 128, 3) := by decide +kernel
theorem dX8_strike_201 : decode cX8_strike 201 = .ok (.iload_n 1, 1) := by decide +kernel
theorem dX8_strike_202 : decode cX8_strike 202 = .ok (.iaload, 1) := by decide +kernel
theorem dX8_strike_203 : decode cX8_strike 203 = .ok (.goto 12, 3) := by decide +kernel
theorem dX8_strike_206 : decode cX8_strike 206 = .ok (.aload_n 0, 1) := by decide +kernel
theorem dX8_strike_207 : decode cX8_strike 207 = .ok (.getfield 23, 3) := by decide +kernel
theorem dX8_strike_210 : decode cX8_strike 210 = .ok (.getfield 154, 3) := by decide +kernel
theorem dX8_strike_213 : decode cX8_strike 213 = .ok (.iload_n 2, 1) := by decide +kernel
theorem dX8_strike_214 : decode cX8_strike 214 = .ok (.iaload, 1) := by decide +kernel
theorem dX8_strike_215 : decode cX8_strike 215 = .ok (.istore 4, 2) := by decide +kernel
theorem dX8_strike_217 : decode cX8_strike 217 = .ok (.iload_n 3, 1) := by decide +kernel
theorem dX8_strike_218 : decode cX8_strike 218 = .ok (.iconst (-1), 1) := by decide +kernel
theorem dX8_strike_219 : decode cX8_strike 219 = .ok (.if_icmp .eq 15, 3) := by decide +kernel
theorem dX8_strike_222 : decode cX8_strike 222 = .ok (.aload_n 0, 1) := by decide +kernel
theorem dX8_strike_223 : decode cX8_strike 223 = .ok (.getfield 23, 3) := by decide +kernel
theorem dX8_strike_226 : decode cX8_strike 226 = .ok (.getfield 128, 3) := by decide +kernel
theorem dX8_strike_229 : decode cX8_strike 229 = .ok (.iload_n 3, 1) := by decide +kernel
theorem dX8_strike_230 : decode cX8_strike 230 = .ok (.iaload, 1) := by decide +kernel
theorem dX8_strike_231 : decode cX8_strike 231 = .ok (.goto 12, 3) := by decide +kernel
theorem dX8_strike_234 : decode cX8_strike 234 = .ok (.aload_n 0, 1) := by decide +kernel
theorem dX8_strike_235 : decode cX8_strike 235 = .ok (.getfield 23, 3) := by decide +kernel
theorem dX8_strike_238 : decode cX8_strike 238 = .ok (.getfield 154, 3) := by decide +kernel
theorem dX8_strike_241 : decode cX8_strike 241 = .ok (.iload_n 1, 1) := by decide +kernel
theorem dX8_strike_242 : decode cX8_strike 242 = .ok (.iaload, 1) := by decide +kernel
theorem dX8_strike_243 : decode cX8_strike 243 = .ok (.istore 5, 2) := by decide +kernel
theorem dX8_strike_245 : decode cX8_strike 245 = .ok (.iload 4, 2) := by decide +kernel
theorem dX8_strike_247 : decode cX8_strike 247 = .ok (.istore 6, 2) := by decide +kernel
theorem dX8_strike_249 : decode cX8_strike 249 = .ok (.iload 6, 2) := by decide +kernel
theorem dX8_strike_251 : decode cX8_strike 251 = .ok (.iload 5, 2) := by decide +kernel
theorem dX8_strike_253 : decode cX8_strike 253 = .ok (.if_icmp .ge 17, 3) := by decide +kernel
theorem dX8_strike_256 : decode cX8_strike 256 = .ok (.aload_n 0, 1) := by decide +kernel
theorem dX8_strike_257 : decode cX8_strike 257 = .ok (.getfield 89, 3) := by decide +kernel
theorem dX8_strike_260 : decode cX8_strike 260 = .ok (.iload 6, 2) := by decide +kernel
theorem dX8_strike_262 : decode cX8_strike 262 = .ok (.iconst 1, 1) := by decide +kernel
theorem dX8_strike_263 : decode cX8_strike 263 = .ok (.bastore, 1) := by decide +kernel
theorem dX8_strike_264 : decode cX8_strike 264 = .ok (.iinc 6 1, 3) := by decide +kernel
theorem dX8_strike_267 : decode cX8_strike 267 = .ok (.goto (-18), 3) := by decide +kernel
theorem dX8_strike_270 : decode cX8_strike 270 = .ok (.aload_n 0, 1) := by decide +kernel
theorem dX8_strike_271 : decode cX8_strike 271 = .ok (.getfield 92, 3) := by decide +kernel
theorem dX8_strike_274 : decode cX8_strike 274 = .ok (.iload_n 1, 1) := by decide +kernel
theorem dX8_strike_275 : decode cX8_strike 275 = .ok (.iconst 1, 1) := by decide +kernel
theorem dX8_strike_276 : decode cX8_strike 276 = .ok (.bastore, 1) := by decide +kernel
theorem dX8_strike_277 : decode cX8_strike 277 = .ok (.iinc 1 1, 3) := by decide +kernel
theorem dX8_strike_280 : decode cX8_strike 280 = .ok (.goto (-226), 3) := by decide +kernel
theorem dX8_strike_283 : decode cX8_strike 283 = .ok (.return_, 1) := by decide +kernel
theorem dX8_write_0 : decode cX8_write 0 = .ok (.aload_n 0, 1) := by decide +kernel
theorem dX8_write_1 : decode cX8_write 1 = .ok (.invokevirtual 269, 3) := by decide +kernel
theorem dX8_write_4 : decode cX8_write 4 = .ok (.aload_n 0, 1) := by decide +kernel
theorem dX8_write_5 : decode cX8_write 5 = .ok (.getfield 23, 3) := by decide +kernel
theorem dX8_write_8 : decode cX8_write 8 = .ok (.getfield 128, 3) := by decide +kernel
theorem dX8_write_11 : decode cX8_write 11 = .ok (.iconst 0, 1) := by decide +kernel
theorem dX8_write_12 : decode cX8_write 12 = .ok (.iaload, 1) := by decide +kernel
theorem dX8_write_13 : decode cX8_write 13 = .ok (.istore_n 1, 1) := by decide +kernel
theorem dX8_write_14 : decode cX8_write 14 = .ok (.iload_n 1, 1) := by decide +kernel
theorem dX8_write_15 : decode cX8_write 15 = .ok (.aload_n 0, 1) := by decide +kernel
theorem dX8_write_16 : decode cX8_write 16 = .ok (.getfield 23, 3) := by decide +kernel
theorem dX8_write_19 : decode cX8_write 19 = .ok (.getfield 154, 3) := by decide +kernel
theorem dX8_write_22 : decode cX8_write 22 = .ok (.iconst 0, 1) := by decide +kernel
theorem dX8_write_23 : decode cX8_write 23 = .ok (.iaload, 1) := by decide +kernel
theorem dX8_write_24 : decode cX8_write 24 = .ok (.if_icmp .ge 216, 3) := by decide +kernel
theorem dX8_write_27 : decode cX8_write 27 = .ok (.iconst (-1), 1) := by decide +kernel
theorem dX8_write_28 : decode cX8_write 28 = .ok (.istore_n 2, 1) := by decide +kernel
theorem dX8_write_29 : decode cX8_write 29 = .ok (.iconst 0, 1) := by decide +kernel
theorem dX8_write_30 : decode cX8_write 30 = .ok (.istore_n 3, 1) := by decide +kernel
theorem dX8_write_31 : decode cX8_write 31 = .ok (.iload_n 3, 1) := by decide +kernel
theorem dX8_write_32 : decode cX8_write 32 = .ok (.aload_n 0, 1) := by decide +kernel
theorem dX8_write_33 : decode cX8_write 33 = .ok (.getfield 23, 3) := by decide +kernel
theorem dX8_write_36 : decode cX8_write 36 = .ok (.getfield 122, 3) := by decide +kernel
theorem dX8_write_39 : decode cX8_write 39 = .ok (.if_icmp .ge 37, 3) := by decide +kernel
theorem dX8_write_42 : decode cX8_write 42 = .ok (.aload_n 0, 1) := by decide +kernel
theorem dX8_write_43 : decode cX8_write 43 = .ok (.getfield 23, 3) := by decide +kernel
theorem dX8_write_46 : decode cX8_write 46 = .ok (.getfield 128, 3) := by decide +kernel
theorem dX8_write_49 : decode cX8_write 49 = .ok (.iload_n 3, 1) := by decide +kernel
theorem dX8_write_50 : decode cX8_write 50 = .ok (.iaload, 1) := by decide +kernel
theorem dX8_write_51 : decode cX8_write 51 = .ok (.iload_n 1, 1) := by decide +kernel
theorem dX8_write_52 : decode cX8_write 52 = .ok (.if_icmp .ne 18, 3) := by decide +kernel
theorem dX8_write_55 : decode cX8_write 55 = .ok (.aload_n 0, 1) := by decide +kernel
theorem dX8_write_56 : decode cX8_write 56 = .ok (.getfield 23, 3) := by decide +kernel
theorem dX8_write_59 : decode cX8_write 59 = .ok (.getfield 140, 3) := by decide +kernel
theorem dX8_write_62 : decode cX8_write 62 = .ok (.iload_n 3, 1) := by decide +kernel
theorem dX8_write_63 : decode cX8_write 63 = .ok (.iaload, 1) := by decide +kernel
theorem dX8_write_64 : decode cX8_write 64 = .ok (.iconst (-1), 1) := by decide +kernel
theorem dX8_write_65 : decode cX8_write 65 = .ok (.if_icmp .eq 5, 3) := by decide +kernel
theorem dX8_write_68 : decode cX8_write 68 = .ok (.iload_n 3, 1) := by decide +kernel
theorem dX8_write_69 : decode cX8_write 69 = .ok (.istore_n 2, 1) := by decide +kernel
theorem dX8_write_70 : decode cX8_write 70 = .ok (.iinc 3 1, 3) := by decide +kernel
theorem dX8_write_73 : decode cX8_write 73 = .ok (.goto (-42), 3) := by decide +kernel
theorem dX8_write_76 : decode cX8_write 76 = .ok (.aload_n 0, 1) := by decide +kernel
theorem dX8_write_77 : decode cX8_write 77 = .ok (.getfield 89, 3) := by decide +kernel
theorem dX8_write_80 : decode cX8_write 80 = .ok (.iload_n 1, 1) := by decide +kernel
theorem dX8_write_81 : decode cX8_write 81 = .ok (.baload, 1) := by decide +kernel
theorem dX8_write_82 : decode cX8_write 82 = .ok (.ifCond .eq 9, 3) := by decide +kernel
theorem dX8_write_85 : decode cX8_write 85 = .ok (.iinc 1 1, 3) := by decide +kernel
theorem dX8_write_88 : decode cX8_write 88 = .ok (.goto (-74), 3) := by decide +kernel
theorem dX8_write_91 : decode cX8_write 91 = .ok (.iload_n 2, 1) := by decide +kernel
theorem dX8_write_92 : decode cX8_write 92 = .ok (.iconst (-1), 1) := by decide +kernel
theorem dX8_write_93 : decode cX8_write 93 = .ok (.if_icmp .ne 21, 3) := by decide +kernel
theorem dX8_write_96 : decode cX8_write 96 = .ok (.aload_n 0, 1) := by decide +kernel
theorem dX8_write_97 : decode cX8_write 97 = .ok (.aload_n 0, 1) := by decide +kernel
theorem dX8_write_98 : decode cX8_write 98 = .ok (.getfield 23, 3) := by decide +kernel
theorem dX8_write_101 : decode cX8_write 101 = .ok (.iload_n 1, 1) := by decide +kernel
theorem dX8_write_102 : decode cX8_write 102 = .ok (.iload_n 1, 1) := by decide +kernel
theorem dX8_write_103 : decode cX8_write 103 = .ok (.iconst 1, 1) := by decide +kernel
theorem dX8_write_104 : decode cX8_write 104 = .ok (.iadd, 1) := by decide +kernel
theorem dX8_write_105 : decode cX8_write 105 = .ok (.invokevirtual 272, 3) := by decide +kernel
theorem dX8_write_108 : decode cX8_write 108 = .ok (.iinc 1 1, 3) := by decide +kernel
theorem dX8_write_111 : decode cX8_write 111 = .ok (.goto (-97), 3) := by decide +kernel
theorem dX8_write_114 : decode cX8_write 114 = .ok (.aload_n 0, 1) := by decide +kernel
theorem dX8_write_115 : decode cX8_write 115 = .ok (.getfield 23, 3) := by decide +kernel
theorem dX8_write_118 : decode cX8_write 118 = .ok (.getfield 140, 3) := by decide +kernel
theorem dX8_write_121 : decode cX8_write 121 = .ok (.iload_n 2, 1) := by decide +kernel
theorem dX8_write_122 : decode cX8_write 122 = .ok (.iaload, 1) := by decide +kernel
theorem dX8_write_123 : decode cX8_write 123 = .ok (.istore_n 3, 1) := by decide +kernel
theorem dX8_write_124 : decode cX8_write 124 = .ok (.aload_n 0, 1) := by decide +kernel
theorem dX8_write_125 : decode cX8_write 125 = .ok (.getfield 23, 3) := by decide +kernel
theorem dX8_write_128 : decode cX8_write 128 = .ok (.getfield 125, 3) := by decide +kernel
theorem dX8_write_131 : decode cX8_write 131 = .ok (.iload_n 2, 1) := by decide +kernel
theorem dX8_write_132 : decode cX8_write 132 = .ok (.iaload, 1) := by decide +kernel
theorem dX8_write_133 : decode cX8_write 133 = .ok (.iconst 1, 1) := by decide +kernel
theorem dX8_write_134 : decode cX8_write 134 = .ok (.if_icmp .ne 42, 3) := by decide +kernel
theorem dX8_write_137 : decode cX8_write 137 = .ok (.aload_n 0, 1) := by decide +kernel
theorem dX8_write_138 : decode cX8_write 138 = .ok (.aload_n 0, 1) := by decide +kernel
theorem dX8_write_139 : decode cX8_write 139 = .ok (.getfield 16, 3) := by decide +kernel
theorem dX8_write_142 : decode cX8_write 142 = .ok (.aload_n 0, 1) := by decide +kernel
theorem dX8_write_143 : decode cX8_write 143 = .ok (.getfield 16, 3) := by decide +kernel
theorem dX8_write_146 : decode cX8_write 146 = .ok (.getfield 128, 3) := by decide +kernel
theorem dX8_write_149 : decode cX8_write 149 = .ok (.aload_n 0, 1) := by decide +kernel
theorem dX8_write_150 : decode cX8_write 150 = .ok (.getfield 61, 3) := by decide +kernel
theorem dX8_write_153 : decode cX8_write 153 = .ok (.iload_n 3, 1) := by decide +kernel
theorem dX8_write_154 : decode cX8_write 154 = .ok (.iaload, 1) := by decide +kernel
theorem dX8_write_155 : decode cX8_write 155 = .ok (.iaload, 1) := by decide +kernel
theorem dX8_write_156 : decode cX8_write 156 = .ok (.aload_n 0, 1) := by decide +kernel
theorem dX8_write_157 : decode cX8_write 157 = .ok (.getfield 16, 3) := by decide +kernel
theorem dX8_write_160 : decode cX8_write 160 = .ok (.getfield 154, 3) := by decide +kernel
theorem dX8_write_163 : decode cX8_write 163 = .ok (.aload_n 0, 1) := by decide +kernel
theorem dX8_write_164 : decode cX8_write 164 = .ok (.getfield 61, 3) := by decide +kernel
theorem dX8_write_167 : decode cX8_write 167 = .ok (.iload_n 3, 1) := by decide +kernel
theorem dX8_write_168 : decode cX8_write 168 = .ok (.iaload, 1) := by decide +kernel
theorem dX8_write_169 : decode cX8_write 169 = .ok (.iaload, 1) := by decide +kernel
theorem dX8_write_170 : decode cX8_write 170 = .ok (.invokevirtual 272, 3) := by decide +kernel
theorem dX8_write_173 : decode cX8_write 173 = .ok (.goto 61, 3) := by decide +kernel
theorem dX8_write_176 : decode cX8_write 176 = .ok (.aload_n 0, 1) := by decide +kernel
theorem dX8_write_177 : decode cX8_write 177 = .ok (.aload_n 0, 1) := by decide +kernel
theorem dX8_write_178 : decode cX8_write 178 = .ok (.getfield 16, 3) := by decide +kernel
theorem dX8_write_181 : decode cX8_write 181 = .ok (.aload_n 0, 1) := by decide +kernel
theorem dX8_write_182 : decode cX8_write 182 = .ok (.getfield 16, 3) := by decide +kernel
theorem dX8_write_185 : decode cX8_write 185 = .ok (.getfield 128, 3) := by decide +kernel
theorem dX8_write_188 : decode cX8_write 188 = .ok (.aload_n 0, 1) := by decide +kernel
theorem dX8_write_189 : decode cX8_write 189 = .ok (.getfield 64, 3) := by decide +kernel
theorem dX8_write_192 : decode cX8_write 192 = .ok (.iload_n 3, 1) := by decide +kernel
theorem dX8_write_193 : decode cX8_write 193 = .ok (.iaload, 1) := by decide +kernel
theorem dX8_write_194 : decode cX8_write 194 = .ok (.iaload, 1) := by decide +kernel
theorem dX8_write_195 : decode cX8_write 195 = .ok (.aload_n 0, 1) := by decide +kernel
theorem dX8_write_196 : decode cX8_write 196 = .ok (.getfield 16, 3) := by decide +kernel
theorem dX8_write_199 : decode cX8_write 199 = .ok (.getfield 154, 3) := by decide +kernel
theorem dX8_write_202 : decode cX8_write 202 = .ok (.aload_n 0, 1) := by decide +kernel
theorem dX8_write_203 : decode cX8_write 203 = .ok (.getfield 16, 3) := by decide +kernel
theorem dX8_write_206 : decode cX8_write 206 = .ok (.aload_n 0, 1) := by decide +kernel
theorem dX8_write_207 : decode cX8_write 207 = .ok (.getfield 70, 3) := by decide +kernel
theorem dX8_write_210 : decode cX8_write 210 = .ok (.iload_n 3, 1) := by decide +kernel
theorem dX8_write_211 : decode cX8_write 211 = .ok (.iaload, 1) := by decide +kernel
theorem dX8_write_212 : decode cX8_write 212 = .ok (.aload_n 0, 1) := by decide +kernel
theorem dX8_write_213 : decode cX8_write 213 = .ok (.getfield 73, 3) := by decide +kernel
theorem dX8_write_216 : decode cX8_write 216 = .ok (.iload_n 3, 1) := by decide +kernel
theorem dX8_write_217 : decode cX8_write 217 = .ok (.iaload, 1) := by decide +kernel
theorem dX8_write_218 : decode cX8_write 218 = .ok (.aload_n 0, 1) := by decide +kernel
theorem dX8_write_219 : decode cX8_write 219 = .ok (.getfield 67, 3) := by decide +kernel
theorem dX8_write_222 : decode cX8_write 222 = .ok (.iload_n 3, 1) := by decide +kernel
theorem dX8_write_223 : decode cX8_write 223 = .ok (.iaload, 1) := by decide +kernel
theorem dX8_write_224 : decode cX8_write 224 = .ok (.iadd, 1) := by decide +kernel
theorem dX8_write_225 : decode cX8_write 225 = .ok (.iconst 1, 1) := by decide +kernel
theorem dX8_write_226 : decode cX8_write 226 = .ok (.isub, 1) := by decide +kernel
theorem dX8_write_227 : decode cX8_write 227 = .ok (.invokevirtual 219, 3) := by decide +kernel
theorem dX8_write_230 : decode cX8_write 230 = .ok (.iaload, 1) := by decide +kernel
theorem dX8_write_231 : decode cX8_write 231 = .ok (.invokevirtual 272, 3) := by decide +kernel
theorem dX8_write_234 : decode cX8_write 234 = .ok (.iinc 1 2, 3) := by decide +kernel
theorem dX8_write_237 : decode cX8_write 237 = .ok (.goto (-223), 3) := by decide +kernel
theorem dX8_write_240 : decode cX8_write 240 = .ok (.return_, 1) := by decide +kernel
theorem dX8_puts_0 : decode cX8_puts 0 = .ok (.iload_n 1, 1) := by decide +kernel
theorem dX8_puts_1 : decode cX8_puts 1 = .ok (.iconst 0, 1) := by decide +kernel
theorem dX8_puts_2 : decode cX8_puts 2 = .ok (.iconst 2, 1) := by decide +kernel
theorem dX8_puts_3 : decode cX8_puts 3 = .ok (.invokestatic 202, 3) := by decide +kernel
theorem dX8_puts_6 : decode cX8_puts 6 = .ok (.ifCond .ne 6, 3) := by decide +kernel
theorem dX8_puts_9 : decode cX8_puts 9 = .ok (.bipush (-2), 2) := by decide +kernel
theorem dX8_puts_11 : decode cX8_puts 11 = .ok (.ireturn, 1) := by decide +kernel
theorem dX8_puts_12 : decode cX8_puts 12 = .ok (.iconst 0, 1) := by decide +kernel
theorem dX8_puts_13 : decode cX8_puts 13 = .ok (.istore_n 2, 1) := by decide +kernel
theorem dX8_puts_14 : decode cX8_puts 14 = .ok (.iload_n 2, 1) := by decide +kernel
theorem dX8_puts_15 : decode cX8_puts 15 = .ok (.aload_n 0, 1) := by decide +kernel
theorem dX8_puts_16 : decode cX8_puts 16 = .ok (.getfield 23, 3) := by decide +kernel
theorem dX8_puts_19 : decode cX8_puts 19 = .ok (.getfield 122, 3) := by decide +kernel
theorem dX8_puts_22 : decode cX8_puts 22 = .ok (.if_icmp .ge 54, 3) := by decide +kernel
theorem dX8_puts_25 : decode cX8_puts 25 = .ok (.aload_n 0, 1) := by decide +kernel
theorem dX8_puts_26 : decode cX8_puts 26 = .ok (.getfield 23, 3) := by decide +kernel
theorem dX8_puts_29 : decode cX8_puts 29 = .ok (.getfield 140, 3) := by decide +kernel
theorem dX8_puts_32 : decode cX8_puts 32 = .ok (.iload_n 2, 1) := by decide +kernel
theorem dX8_puts_33 : decode cX8_puts 33 = .ok (.iaload, 1) := by decide +kernel
theorem dX8_puts_34 : decode cX8_puts 34 = .ok (.iconst (-1), 1) := by decide +kernel
theorem dX8_puts_35 : decode cX8_puts 35 = .ok (.if_icmp .eq 35, 3) := by decide +kernel
theorem dX8_puts_38 : decode cX8_puts 38 = .ok (.aload_n 0, 1) := by decide +kernel
theorem dX8_puts_39 : decode cX8_puts 39 = .ok (.aload_n 0, 1) := by decide +kernel
theorem dX8_puts_40 : decode cX8_puts 40 = .ok (.getfield 20, 3) := by decide +kernel
theorem dX8_puts_43 : decode cX8_puts 43 = .ok (.aload_n 0, 1) := by decide +kernel
theorem dX8_puts_44 : decode cX8_puts 44 = .ok (.getfield 23, 3) := by decide +kernel
theorem dX8_puts_47 : decode cX8_puts 47 = .ok (.getfield 140, 3) := by decide +kernel
theorem dX8_puts_50 : decode cX8_puts 50 = .ok (.iload_n 2, 1) := by decide +kernel
theorem dX8_puts_51 : decode cX8_puts 51 = .ok (.iaload, 1) := by decide +kernel
theorem dX8_puts_52 : decode cX8_puts 52 = .ok (.invokevirtual 259, 3) := by decide +kernel
theorem dX8_puts_55 : decode cX8_puts 55 = .ok (.aload_n 0, 1) := by decide +kernel
theorem dX8_puts_56 : decode cX8_puts 56 = .ok (.getfield 23, 3) := by decide +kernel
theorem dX8_puts_59 : decode cX8_puts 59 = .ok (.getfield 125, 3) := by decide +kernel
theorem dX8_puts_62 : decode cX8_puts 62 = .ok (.iload_n 2, 1) := by decide +kernel
theorem dX8_puts_63 : decode cX8_puts 63 = .ok (.iaload, 1) := by decide +kernel
theorem dX8_puts_64 : decode cX8_puts 64 = .ok (.if_icmp .eq 6, 3) := by decide +kernel
theorem dX8_puts_67 : decode cX8_puts 67 = .ok (.bipush (-2), 2) := by decide +kernel
theorem dX8_puts_69 : decode cX8_puts 69 = .ok (.ireturn, 1) := by decide +kernel
theorem dX8_puts_70 : decode cX8_puts 70 = .ok (.iinc 2 1, 3) := by decide +kernel
theorem dX8_puts_73 : decode cX8_puts 73 = .ok (.goto (-59), 3) := by decide +kernel
theorem dX8_puts_76 : decode cX8_puts 76 = .ok (.aload_n 0, 1) := by decide +kernel
theorem dX8_puts_77 : decode cX8_puts 77 = .ok (.iload_n 1, 1) := by decide +kernel
theorem dX8_puts_78 : decode cX8_puts 78 = .ok (.invokevirtual 263, 3) := by decide +kernel
theorem dX8_puts_81 : decode cX8_puts 81 = .ok (.istore_n 2, 1) := by decide +kernel
theorem dX8_puts_82 : decode cX8_puts 82 = .ok (.aload_n 0, 1) := by decide +kernel
theorem dX8_puts_83 : decode cX8_puts 83 = .ok (.iconst 0, 1) := by decide +kernel
theorem dX8_puts_84 : decode cX8_puts 84 = .ok (.putfield 266, 3) := by decide +kernel
theorem dX8_puts_87 : decode cX8_puts 87 = .ok (.iconst 0, 1) := by decide +kernel
theorem dX8_puts_88 : decode cX8_puts 88 = .ok (.istore_n 3, 1) := by decide +kernel
theorem dX8_puts_89 : decode cX8_puts 89 = .ok (.iconst 0, 1) := by decide +kernel
theorem dX8_puts_90 : decode cX8_puts 90 = .ok (.istore 4, 2) := by decide +kernel
theorem dX8_puts_92 : decode cX8_puts 92 = .ok (.iload 4, 2) := by decide +kernel
theorem dX8_puts_94 : decode cX8_puts 94 = .ok (.aload_n 0, 1) := by decide +kernel
theorem dX8_puts_95 : decode cX8_puts 95 = .ok (.getfield 16, 3) := by decide +kernel
theorem dX8_puts_98 : decode cX8_puts 98 = .ok (.getfield 122, 3) := by decide +kernel
theorem dX8_puts_101 : decode cX8_puts 101 = .ok (.if_icmp .ge 64, 3) := by decide +kernel
theorem dX8_puts_104 : decode cX8_puts 104 = .ok (.aload_n 0, 1) := by decide +kernel
theorem dX8_puts_105 : decode cX8_puts 105 = .ok (.getfield 79, 3) := by decide +kernel
theorem dX8_puts_108 : decode cX8_puts 108 = .ok (.iload 4, 2) := by decide +kernel
theorem dX8_puts_110 : decode cX8_puts 110 = .ok (.baload, 1) := by decide +kernel
theorem dX8_puts_111 : decode cX8_puts 111 = .ok (.ifCond .ne 6, 3) := by decide +kernel
theorem dX8_puts_114 : decode cX8_puts 114 = .ok (.goto 45, 3) := by decide +kernel
theorem dX8_puts_117 : decode cX8_puts 117 = .ok (.aload_n 0, 1) := by decide +kernel
theorem dX8_puts_118 : decode cX8_puts 118 = .ok (.aload_n 0, 1) := by decide +kernel
theorem dX8_puts_119 : decode cX8_puts 119 = .ok (.getfield 16, 3) := by decide +kernel
theorem dX8_puts_122 : decode cX8_puts 122 = .ok (.iload_n 3, 1) := by decide +kernel
theorem dX8_puts_123 : decode cX8_puts 123 = .ok (.aload_n 0, 1) := by decide +kernel
theorem dX8_puts_124 : decode cX8_puts 124 = .ok (.getfield 16, 3) := by decide +kernel
theorem dX8_puts_127 : decode cX8_puts 127 = .ok (.getfield 128, 3) := by decide +kernel
theorem dX8_puts_130 : decode cX8_puts 130 = .ok (.iload 4, 2) := by decide +kernel
theorem dX8_puts_132 : decode cX8_puts 132 = .ok (.iaload, 1) := by decide +kernel
theorem dX8_puts_133 : decode cX8_puts 133 = .ok (.invokevirtual 272, 3) := by decide +kernel
theorem dX8_puts_136 : decode cX8_puts 136 = .ok (.aload_n 0, 1) := by decide +kernel
theorem dX8_puts_137 : decode cX8_puts 137 = .ok (.iload 4, 2) := by decide +kernel
theorem dX8_puts_139 : decode cX8_puts 139 = .ok (.invokevirtual 253, 3) := by decide +kernel
theorem dX8_puts_142 : decode cX8_puts 142 = .ok (.istore 5, 2) := by decide +kernel
theorem dX8_puts_144 : decode cX8_puts 144 = .ok (.aload_n 0, 1) := by decide +kernel
theorem dX8_puts_145 : decode cX8_puts 145 = .ok (.invokevirtual 276, 3) := by decide +kernel
theorem dX8_puts_148 : decode cX8_puts 148 = .ok (.aload_n 0, 1) := by decide +kernel
theorem dX8_puts_149 : decode cX8_puts 149 = .ok (.getfield 16, 3) := by decide +kernel
theorem dX8_puts_152 : decode cX8_puts 152 = .ok (.getfield 154, 3) := by decide +kernel
theorem dX8_puts_155 : decode cX8_puts 155 = .ok (.iload 4, 2) := by decide +kernel
theorem dX8_puts_157 : decode cX8_puts 157 = .ok (.iaload, 1) := by decide +kernel
theorem dX8_puts_158 : decode cX8_puts 158 = .ok (.istore_n 3, 1) := by decide +kernel
theorem dX8_puts_159 : decode cX8_puts 159 = .ok (.iinc 4 1, 3) := by decide +kernel
theorem dX8_puts_162 : decode cX8_puts 162 = .ok (.goto (-70), 3) := by decide +kernel
theorem dX8_puts_165 : decode cX8_puts 165 = .ok (.aload_n 0, 1) := by decide +kernel
theorem dX8_puts_166 : decode cX8_puts 166 = .ok (.aload_n 0, 1) := by decide +kernel
theorem dX8_puts_167 : decode cX8_puts 167 = .ok (.getfield 16, 3) := by decide +kernel
theorem dX8_puts_170 : decode cX8_puts 170 = .ok (.iload_n 3, 1) := by decide +kernel
theorem dX8_puts_171 : decode cX8_puts 171 = .ok (.aload_n 0, 1) := by decide +kernel
theorem dX8_puts_172 : decode cX8_puts 172 = .ok (.getfield 16, 3) := by decide +kernel
theorem dX8_puts_175 : decode cX8_puts 175 = .ok (.getfield 112, 3) := by decide +kernel
theorem dX8_puts_178 : decode cX8_puts 178 = .ok (.invokevirtual 272, 3) := by decide +kernel
theorem dX8_puts_181 : decode cX8_puts 181 = .ok (.aload_n 0, 1) := by decide +kernel
theorem dX8_puts_182 : decode cX8_puts 182 = .ok (.getfield 266, 3) := by decide +kernel
theorem dX8_puts_185 : decode cX8_puts 185 = .ok (.sipush 240, 3) := by decide +kernel
theorem dX8_puts_188 : decode cX8_puts 188 = .ok (.if_icmp .gt 25, 3) := by decide +kernel
theorem dX8_puts_191 : decode cX8_puts 191 = .ok (.aload_n 0, 1) := by decide +kernel
theorem dX8_puts_192 : decode cX8_puts 192 = .ok (.aload_n 0, 1) := by decide +kernel
theorem dX8_puts_193 : decode cX8_puts 193 = .ok (.getfield 26, 3) := by decide +kernel
theorem dX8_puts_196 : decode cX8_puts 196 = .ok (.aload_n 0, 1) := by decide +kernel
theorem dX8_puts_197 : decode cX8_puts 197 = .ok (.getfield 86, 3) := by decide +kernel
theorem dX8_puts_200 : decode cX8_puts 200 = .ok (.iconst 0, 1) := by decide +kernel
theorem dX8_puts_201 : decode cX8_puts 201 = .ok (.aload_n 0, 1) := by decide +kernel
theorem dX8_puts_202 : decode cX8_puts 202 = .ok (.getfield 266, 3) := by decide +kernel
theorem dX8_puts_205 : decode cX8_puts 205 = .ok (.iconst 0, 1) := by decide +kernel
theorem dX8_puts_206 : decode cX8_puts 206 = .ok (.invokevirtual 206, 3) := by decide +kernel
theorem dX8_puts_209 : decode cX8_puts 209 = .ok (.iconst (-1), 1) := by decide +kernel
theorem dX8_puts_210 : decode cX8_puts 210 = .ok (.if_icmp .eq 6, 3) := by decide +kernel
theorem dX8_puts_213 : decode cX8_puts 213 = .ok (.bipush (-2), 2) := by decide +kernel
theorem dX8_puts_215 : decode cX8_puts 215 = .ok (.ireturn, 1) := by decide +kernel
theorem dX8_puts_216 : decode cX8_puts 216 = .ok (.aload_n 0, 1) := by decide +kernel
theorem dX8_puts_217 : decode cX8_puts 217 = .ok (.aload_n 0, 1) := by decide +kernel
theorem dX8_puts_218 : decode cX8_puts 218 = .ok (.getfield 16, 3) := by decide +kernel
theorem dX8_puts_221 : decode cX8_puts 221 = .ok (.aload_n 0, 1) := by decide +kernel
theorem dX8_puts_222 : decode cX8_puts 222 = .ok (.getfield 86, 3) := by decide +kernel
theorem dX8_puts_225 : decode cX8_puts 225 = .ok (.iconst 0, 1) := by decide +kernel
theorem dX8_puts_226 : decode cX8_puts 226 = .ok (.aload_n 0, 1) := by decide +kernel
theorem dX8_puts_227 : decode cX8_puts 227 = .ok (.getfield 266, 3) := by decide +kernel
theorem dX8_puts_230 : decode cX8_puts 230 = .ok (.iconst 0, 1) := by decide +kernel
theorem dX8_puts_231 : decode cX8_puts 231 = .ok (.invokevirtual 206, 3) := by decide +kernel
theorem dX8_puts_234 : decode cX8_puts 234 = .ok (.istore 4, 2) := by decide +kernel
theorem dX8_puts_236 : decode cX8_puts 236 = .ok (.iload_n 2, 1) := by decide +kernel
theorem dX8_puts_237 : decode cX8_puts 237 = .ok (.ireturn, 1) := by decide +kernel
theorem dX8_keep_0 : decode cX8_keep 0 = .ok (.aload_n 0, 1) := by decide +kernel
theorem dX8_keep_1 : decode cX8_keep 1 = .ok (.getfield 212, 3) := by decide +kernel
theorem dX8_keep_4 : decode cX8_keep 4 = .ok (.bipush 10, 2) := by decide +kernel
theorem dX8_keep_6 : decode cX8_keep 6 = .ok (.if_icmp .ne 74, 3) := by decide +kernel
theorem dX8_keep_9 : decode cX8_keep 9 = .ok (.sipush 240, 3) := by decide +kernel
theorem dX8_keep_12 : decode cX8_keep 12 = .ok (.istore_n 2, 1) := by decide +kernel
theorem dX8_keep_13 : decode cX8_keep 13 = .ok (.iload_n 2, 1) := by decide +kernel
theorem dX8_keep_14 : decode cX8_keep 14 = .ok (.sipush 2400, 3) := by decide +kernel
theorem dX8_keep_17 : decode cX8_keep 17 = .ok (.if_icmp .ge 25, 3) := by decide +kernel
theorem dX8_keep_20 : decode cX8_keep 20 = .ok (.aload_n 0, 1) := by decide +kernel
theorem dX8_keep_21 : decode cX8_keep 21 = .ok (.getfield 32, 3) := by decide +kernel
theorem dX8_keep_24 : decode cX8_keep 24 = .ok (.iload_n 2, 1) := by decide +kernel
theorem dX8_keep_25 : decode cX8_keep 25 = .ok (.sipush 240, 3) := by decide +kernel
theorem dX8_keep_28 : decode cX8_keep 28 = .ok (.isub, 1) := by decide +kernel
theorem dX8_keep_29 : decode cX8_keep 29 = .ok (.aload_n 0, 1) := by decide +kernel
theorem dX8_keep_30 : decode cX8_keep 30 = .ok (.getfield 32, 3) := by decide +kernel
theorem dX8_keep_33 : decode cX8_keep 33 = .ok (.iload_n 2, 1) := by decide +kernel
theorem dX8_keep_34 : decode cX8_keep 34 = .ok (.baload, 1) := by decide +kernel
theorem dX8_keep_35 : decode cX8_keep 35 = .ok (.bastore, 1) := by decide +kernel
theorem dX8_keep_36 : decode cX8_keep 36 = .ok (.iinc 2 1, 3) := by decide +kernel
theorem dX8_keep_39 : decode cX8_keep 39 = .ok (.goto (-26), 3) := by decide +kernel
theorem dX8_keep_42 : decode cX8_keep 42 = .ok (.iconst 1, 1) := by decide +kernel
theorem dX8_keep_43 : decode cX8_keep 43 = .ok (.istore_n 2, 1) := by decide +kernel
theorem dX8_keep_44 : decode cX8_keep 44 = .ok (.iload_n 2, 1) := by decide +kernel
theorem dX8_keep_45 : decode cX8_keep 45 = .ok (.bipush 10, 2) := by decide +kernel
theorem dX8_keep_47 : decode cX8_keep 47 = .ok (.if_icmp .ge 23, 3) := by decide +kernel
theorem dX8_keep_50 : decode cX8_keep 50 = .ok (.aload_n 0, 1) := by decide +kernel
theorem dX8_keep_51 : decode cX8_keep 51 = .ok (.getfield 35, 3) := by decide +kernel
theorem dX8_keep_54 : decode cX8_keep 54 = .ok (.iload_n 2, 1) := by decide +kernel
theorem dX8_keep_55 : decode cX8_keep 55 = .ok (.iconst 1, 1) := by decide +kernel
theorem dX8_keep_56 : decode cX8_keep 56 = .ok (.isub, 1) := by decide +kernel
theorem dX8_keep_57 : decode cX8_keep 57 = .ok (.aload_n 0, 1) := by decide +kernel
theorem dX8_keep_58 : decode cX8_keep 58 = .ok (.getfield 35, 3) := by decide +kernel
theorem dX8_keep_61 : decode cX8_keep 61 = .ok (.iload_n 2, 1) := by decide +kernel
theorem dX8_keep_62 : decode cX8_keep 62 = .ok (.iaload, 1) := by decide +kernel
theorem dX8_keep_63 : decode cX8_keep 63 = .ok (.iastore, 1) := by decide +kernel
theorem dX8_keep_64 : decode cX8_keep 64 = .ok (.iinc 2 1, 3) := by decide +kernel
theorem dX8_keep_67 : decode cX8_keep 67 = .ok (.goto (-23), 3) := by decide +kernel
theorem dX8_keep_70 : decode cX8_keep 70 = .ok (.aload_n 0, 1) := by decide +kernel
theorem dX8_keep_71 : decode cX8_keep 71 = .ok (.dup, 1) := by decide +kernel
theorem dX8_keep_72 : decode cX8_keep 72 = .ok (.getfield 212, 3) := by decide +kernel
theorem dX8_keep_75 : decode cX8_keep 75 = .ok (.iconst 1, 1) := by decide +kernel
theorem dX8_keep_76 : decode cX8_keep 76 = .ok (.isub, 1) := by decide +kernel
theorem dX8_keep_77 : decode cX8_keep 77 = .ok (.putfield 212, 3) := by decide +kernel
theorem dX8_keep_80 : decode cX8_keep 80 = .ok (.iconst 0, 1) := by decide +kernel
theorem dX8_keep_81 : decode cX8_keep 81 = .ok (.istore_n 2, 1) := by decide +kernel
theorem dX8_keep_82 : decode cX8_keep 82 = .ok (.iload_n 2, 1) := by decide +kernel
theorem dX8_keep_83 : decode cX8_keep 83 = .ok (.aload_n 1, 1) := by decide +kernel
theorem dX8_keep_84 : decode cX8_keep 84 = .ok (.getfield 112, 3) := by decide +kernel
theorem dX8_keep_87 : decode cX8_keep 87 = .ok (.if_icmp .ge 30, 3) := by decide +kernel
theorem dX8_keep_90 : decode cX8_keep 90 = .ok (.aload_n 0, 1) := by decide +kernel
theorem dX8_keep_91 : decode cX8_keep 91 = .ok (.getfield 32, 3) := by decide +kernel
theorem dX8_keep_94 : decode cX8_keep 94 = .ok (.sipush 240, 3) := by decide +kernel
theorem dX8_keep_97 : decode cX8_keep 97 = .ok (.aload_n 0, 1) := by decide +kernel
theorem dX8_keep_98 : decode cX8_keep 98 = .ok (.getfield 212, 3) := by decide +kernel
theorem dX8_keep_101 : decode cX8_keep 101 = .ok (.imul, 1) := by decide +kernel
theorem dX8_keep_102 : decode cX8_keep 102 = .ok (.iload_n 2, 1) := by decide +kernel
theorem dX8_keep_103 : decode cX8_keep 103 = .ok (.iadd, 1) := by decide +kernel
theorem dX8_keep_104 : decode cX8_keep 104 = .ok (.aload_n 1, 1) := by decide +kernel
theorem dX8_keep_105 : decode cX8_keep 105 = .ok (.getfield 113, 3) := by decide +kernel
theorem dX8_keep_108 : decode cX8_keep 108 = .ok (.iload_n 2, 1) := by decide +kernel
theorem dX8_keep_109 : decode cX8_keep 109 = .ok (.baload, 1) := by decide +kernel
theorem dX8_keep_110 : decode cX8_keep 110 = .ok (.bastore, 1) := by decide +kernel
theorem dX8_keep_111 : decode cX8_keep 111 = .ok (.iinc 2 1, 3) := by decide +kernel
theorem dX8_keep_114 : decode cX8_keep 114 = .ok (.goto (-32), 3) := by decide +kernel
theorem dX8_keep_117 : decode cX8_keep 117 = .ok (.aload_n 0, 1) := by decide +kernel
theorem dX8_keep_118 : decode cX8_keep 118 = .ok (.getfield 35, 3) := by decide +kernel
theorem dX8_keep_121 : decode cX8_keep 121 = .ok (.aload_n 0, 1) := by decide +kernel
theorem dX8_keep_122 : decode cX8_keep 122 = .ok (.getfield 212, 3) := by decide +kernel
theorem dX8_keep_125 : decode cX8_keep 125 = .ok (.aload_n 1, 1) := by decide +kernel
theorem dX8_keep_126 : decode cX8_keep 126 = .ok (.getfield 112, 3) := by decide +kernel
theorem dX8_keep_129 : decode cX8_keep 129 = .ok (.iastore, 1) := by decide +kernel
theorem dX8_keep_130 : decode cX8_keep 130 = .ok (.aload_n 0, 1) := by decide +kernel
theorem dX8_keep_131 : decode cX8_keep 131 = .ok (.dup, 1) := by decide +kernel
theorem dX8_keep_132 : decode cX8_keep 132 = .ok (.getfield 212, 3) := by decide +kernel
theorem dX8_keep_135 : decode cX8_keep 135 = .ok (.iconst 1, 1) := by decide +kernel
theorem dX8_keep_136 : decode cX8_keep 136 = .ok (.iadd, 1) := by decide +kernel
theorem dX8_keep_137 : decode cX8_keep 137 = .ok (.putfield 212, 3) := by decide +kernel
theorem dX8_keep_140 : decode cX8_keep 140 = .ok (.return_, 1) := by decide +kernel
theorem dX8_put_0 : decode cX8_put 0 = .ok (.aload_n 0, 1) := by decide +kernel
theorem dX8_put_1 : decode cX8_put 1 = .ok (.iconst 0, 1) := by decide +kernel
theorem dX8_put_2 : decode cX8_put 2 = .ok (.putfield 103, 3) := by decide +kernel
theorem dX8_put_5 : decode cX8_put 5 = .ok (.aload_n 0, 1) := by decide +kernel
theorem dX8_put_6 : decode cX8_put 6 = .ok (.aload_n 0, 1) := by decide +kernel
theorem dX8_put_7 : decode cX8_put 7 = .ok (.getfield 29, 3) := by decide +kernel
theorem dX8_put_10 : decode cX8_put 10 = .ok (.aload_n 0, 1) := by decide +kernel
theorem dX8_put_11 : decode cX8_put 11 = .ok (.getfield 16, 3) := by decide +kernel
theorem dX8_put_14 : decode cX8_put 14 = .ok (.getfield 113, 3) := by decide +kernel
theorem dX8_put_17 : decode cX8_put 17 = .ok (.iconst 0, 1) := by decide +kernel
theorem dX8_put_18 : decode cX8_put 18 = .ok (.aload_n 0, 1) := by decide +kernel
theorem dX8_put_19 : decode cX8_put 19 = .ok (.getfield 16, 3) := by decide +kernel
theorem dX8_put_22 : decode cX8_put 22 = .ok (.getfield 112, 3) := by decide +kernel
theorem dX8_put_25 : decode cX8_put 25 = .ok (.iconst 0, 1) := by decide +kernel
theorem dX8_put_26 : decode cX8_put 26 = .ok (.invokevirtual 206, 3) := by decide +kernel
theorem dX8_put_29 : decode cX8_put 29 = .ok (.istore_n 2, 1) := by decide +kernel
theorem dX8_put_30 : decode cX8_put 30 = .ok (.aload_n 0, 1) := by decide +kernel
theorem dX8_put_31 : decode cX8_put 31 = .ok (.iload_n 1, 1) := by decide +kernel
theorem dX8_put_32 : decode cX8_put 32 = .ok (.invokevirtual 279, 3) := by decide +kernel
theorem dX8_put_35 : decode cX8_put 35 = .ok (.istore_n 3, 1) := by decide +kernel
theorem dX8_put_36 : decode cX8_put 36 = .ok (.iload_n 3, 1) := by decide +kernel
theorem dX8_put_37 : decode cX8_put 37 = .ok (.ifCond .lt 11, 3) := by decide +kernel
theorem dX8_put_40 : decode cX8_put 40 = .ok (.aload_n 0, 1) := by decide +kernel
theorem dX8_put_41 : decode cX8_put 41 = .ok (.aload_n 0, 1) := by decide +kernel
theorem dX8_put_42 : decode cX8_put 42 = .ok (.getfield 29, 3) := by decide +kernel
theorem dX8_put_45 : decode cX8_put 45 = .ok (.invokevirtual 282, 3) := by decide +kernel
theorem dX8_put_48 : decode cX8_put 48 = .ok (.iload_n 3, 1) := by decide +kernel
theorem dX8_put_49 : decode cX8_put 49 = .ok (.ireturn, 1) := by decide +kernel
theorem dX8_putAll_0 : decode cX8_putAll 0 = .ok (.aload_n 0, 1) := by decide +kernel
theorem dX8_putAll_1 : decode cX8_putAll 1 = .ok (.iconst 0, 1) := by decide +kernel
theorem dX8_putAll_2 : decode cX8_putAll 2 = .ok (.putfield 103, 3) := by decide +kernel
theorem dX8_putAll_5 : decode cX8_putAll 5 = .ok (.aload_n 0, 1) := by decide +kernel
theorem dX8_putAll_6 : decode cX8_putAll 6 = .ok (.aload_n 0, 1) := by decide +kernel
theorem dX8_putAll_7 : decode cX8_putAll 7 = .ok (.getfield 29, 3) := by decide +kernel
theorem dX8_putAll_10 : decode cX8_putAll 10 = .ok (.aload_n 0, 1) := by decide +kernel
theorem dX8_putAll_11 : decode cX8_putAll 11 = .ok (.getfield 16, 3) := by decide +kernel
theorem dX8_putAll_14 : decode cX8_putAll 14 = .ok (.getfield 113, 3) := by decide +kernel
theorem dX8_putAll_17 : decode cX8_putAll 17 = .ok (.iconst 0, 1) := by decide +kernel
theorem dX8_putAll_18 : decode cX8_putAll 18 = .ok (.aload_n 0, 1) := by decide +kernel
theorem dX8_putAll_19 : decode cX8_putAll 19 = .ok (.getfield 16, 3) := by decide +kernel
theorem dX8_putAll_22 : decode cX8_putAll 22 = .ok (.getfield 112, 3) := by decide +kernel
theorem dX8_putAll_25 : decode cX8_putAll 25 = .ok (.iconst 0, 1) := by decide +kernel
theorem dX8_putAll_26 : decode cX8_putAll 26 = .ok (.invokevirtual 206, 3) := by decide +kernel
theorem dX8_putAll_29 : decode cX8_putAll 29 = .ok (.istore_n 2, 1) := by decide +kernel
theorem dX8_putAll_30 : decode cX8_putAll 30 = .ok (.aload_n 0, 1) := by decide +kernel
theorem dX8_putAll_31 : decode cX8_putAll 31 = .ok (.iload_n 1, 1) := by decide +kernel
theorem dX8_putAll_32 : decode cX8_putAll 32 = .ok (.invokevirtual 279, 3) := by decide +kernel
theorem dX8_putAll_35 : decode cX8_putAll 35 = .ok (.istore_n 3, 1) := by decide +kernel
theorem dX8_putAll_36 : decode cX8_putAll 36 = .ok (.iload_n 3, 1) := by decide +kernel
theorem dX8_putAll_37 : decode cX8_putAll 37 = .ok (.ifCond .ge 6, 3) := by decide +kernel
theorem dX8_putAll_40 : decode cX8_putAll 40 = .ok (.bipush (-2), 2) := by decide +kernel
theorem dX8_putAll_42 : decode cX8_putAll 42 = .ok (.ireturn, 1) := by decide +kernel
theorem dX8_putAll_43 : decode cX8_putAll 43 = .ok (.iconst 0, 1) := by decide +kernel
theorem dX8_putAll_44 : decode cX8_putAll 44 = .ok (.istore 4, 2) := by decide +kernel
theorem dX8_putAll_46 : decode cX8_putAll 46 = .ok (.iload_n 3, 1) := by decide +kernel
theorem dX8_putAll_47 : decode cX8_putAll 47 = .ok (.ifCond .le 48, 3) := by decide +kernel
theorem dX8_putAll_50 : decode cX8_putAll 50 = .ok (.iinc 4 1, 3) := by decide +kernel
theorem dX8_putAll_53 : decode cX8_putAll 53 = .ok (.iload 4, 2) := by decide +kernel
theorem dX8_putAll_55 : decode cX8_putAll 55 = .ok (.bipush 20, 2) := by decide +kernel
theorem dX8_putAll_57 : decode cX8_putAll 57 = .ok (.if_icmp .ne 29, 3) := by decide +kernel
theorem dX8_putAll_60 : decode cX8_putAll 60 = .ok (.iload_n 1, 1) := by decide +kernel
theorem dX8_putAll_61 : decode cX8_putAll 61 = .ok (.iconst 0, 1) := by decide +kernel
theorem dX8_putAll_62 : decode cX8_putAll 62 = .ok (.iconst 2, 1) := by decide +kernel
theorem dX8_putAll_63 : decode cX8_putAll 63 = .ok (.invokestatic 202, 3) := by decide +kernel
theorem dX8_putAll_66 : decode cX8_putAll 66 = .ok (.ifCond .eq 15, 3) := by decide +kernel
theorem dX8_putAll_69 : decode cX8_putAll 69 = .ok (.aload_n 0, 1) := by decide +kernel
theorem dX8_putAll_70 : decode cX8_putAll 70 = .ok (.iload_n 1, 1) := by decide +kernel
theorem dX8_putAll_71 : decode cX8_putAll 71 = .ok (.invokevirtual 263, 3) := by decide +kernel
theorem dX8_putAll_74 : decode cX8_putAll 74 = .ok (.ifCond .le 7, 3) := by decide +kernel
theorem dX8_putAll_77 : decode cX8_putAll 77 = .ok (.iconst (-1), 1) := by decide +kernel
theorem dX8_putAll_78 : decode cX8_putAll 78 = .ok (.goto 4, 3) := by decide +kernel
theorem dX8_putAll_81 : decode cX8_putAll 81 = .ok (.iconst 0, 1) := by decide +kernel
theorem dX8_putAll_82 : decode cX8_putAll 82 = .ok (.istore_n 3, 1) := by decide +kernel
theorem dX8_putAll_83 : decode cX8_putAll 83 = .ok (.goto (-37), 3) := by decide +kernel
theorem dX8_putAll_86 : decode cX8_putAll 86 = .ok (.aload_n 0, 1) := by decide +kernel
theorem dX8_putAll_87 : decode cX8_putAll 87 = .ok (.iload_n 1, 1) := by decide +kernel
theorem dX8_putAll_88 : decode cX8_putAll 88 = .ok (.invokevirtual 279, 3) := by decide +kernel
theorem dX8_putAll_91 : decode cX8_putAll 91 = .ok (.istore_n 3, 1) := by decide +kernel
theorem dX8_putAll_92 : decode cX8_putAll 92 = .ok (.goto (-46), 3) := by decide +kernel
theorem dX8_putAll_95 : decode cX8_putAll 95 = .ok (.iload_n 3, 1) := by decide +kernel
theorem dX8_putAll_96 : decode cX8_putAll 96 = .ok (.ifCond .ge 30, 3) := by decide +kernel
theorem dX8_putAll_99 : decode cX8_putAll 99 = .ok (.aload_n 0, 1) := by decide +kernel
theorem dX8_putAll_100 : decode cX8_putAll 100 = .ok (.aload_n 0, 1) := by decide +kernel
theorem dX8_putAll_101 : decode cX8_putAll 101 = .ok (.getfield 16, 3) := by decide +kernel
theorem dX8_putAll_104 : decode cX8_putAll 104 = .ok (.aload_n 0, 1) := by decide +kernel
theorem dX8_putAll_105 : decode cX8_putAll 105 = .ok (.getfield 29, 3) := by decide +kernel
theorem dX8_putAll_108 : decode cX8_putAll 108 = .ok (.getfield 113, 3) := by decide +kernel
theorem dX8_putAll_111 : decode cX8_putAll 111 = .ok (.iconst 0, 1) := by decide +kernel
theorem dX8_putAll_112 : decode cX8_putAll 112 = .ok (.aload_n 0, 1) := by decide +kernel
theorem dX8_putAll_113 : decode cX8_putAll 113 = .ok (.getfield 29, 3) := by decide +kernel
theorem dX8_putAll_116 : decode cX8_putAll 116 = .ok (.getfield 112, 3) := by decide +kernel
theorem dX8_putAll_119 : decode cX8_putAll 119 = .ok (.iconst 0, 1) := by decide +kernel
theorem dX8_putAll_120 : decode cX8_putAll 120 = .ok (.invokevirtual 206, 3) := by decide +kernel
theorem dX8_putAll_123 : decode cX8_putAll 123 = .ok (.istore_n 2, 1) := by decide +kernel
theorem dX8_putAll_124 : decode cX8_putAll 124 = .ok (.iconst (-1), 1) := by decide +kernel
theorem dX8_putAll_125 : decode cX8_putAll 125 = .ok (.ireturn, 1) := by decide +kernel
theorem dX8_putAll_126 : decode cX8_putAll 126 = .ok (.aload_n 0, 1) := by decide +kernel
theorem dX8_putAll_127 : decode cX8_putAll 127 = .ok (.aload_n 0, 1) := by decide +kernel
theorem dX8_putAll_128 : decode cX8_putAll 128 = .ok (.getfield 29, 3) := by decide +kernel
theorem dX8_putAll_131 : decode cX8_putAll 131 = .ok (.invokevirtual 282, 3) := by decide +kernel
theorem dX8_putAll_134 : decode cX8_putAll 134 = .ok (.iload 4, 2) := by decide +kernel
theorem dX8_putAll_136 : decode cX8_putAll 136 = .ok (.ireturn, 1) := by decide +kernel
theorem dX8_back_0 : decode cX8_back 0 = .ok (.aload_n 0, 1) := by decide +kernel
theorem dX8_back_1 : decode cX8_back 1 = .ok (.iconst 0, 1) := by decide +kernel
theorem dX8_back_2 : decode cX8_back 2 = .ok (.putfield 103, 3) := by decide +kernel
theorem dX8_back_5 : decode cX8_back 5 = .ok (.aload_n 0, 1) := by decide +kernel
theorem dX8_back_6 : decode cX8_back 6 = .ok (.getfield 212, 3) := by decide +kernel
theorem dX8_back_9 : decode cX8_back 9 = .ok (.ifCond .ne 5, 3) := by decide +kernel
theorem dX8_back_12 : decode cX8_back 12 = .ok (.iconst 0, 1) := by decide +kernel
theorem dX8_back_13 : decode cX8_back 13 = .ok (.ireturn, 1) := by decide +kernel
theorem dX8_back_14 : decode cX8_back 14 = .ok (.aload_n 0, 1) := by decide +kernel
theorem dX8_back_15 : decode cX8_back 15 = .ok (.dup, 1) := by decide +kernel
theorem dX8_back_16 : decode cX8_back 16 = .ok (.getfield 212, 3) := by decide +kernel
theorem dX8_back_19 : decode cX8_back 19 = .ok (.iconst 1, 1) := by decide +kernel
theorem dX8_back_20 : decode cX8_back 20 = .ok (.isub, 1) := by decide +kernel
theorem dX8_back_21 : decode cX8_back 21 = .ok (.putfield 212, 3) := by decide +kernel
theorem dX8_back_24 : decode cX8_back 24 = .ok (.aload_n 0, 1) := by decide +kernel
theorem dX8_back_25 : decode cX8_back 25 = .ok (.aload_n 0, 1) := by decide +kernel
theorem dX8_back_26 : decode cX8_back 26 = .ok (.getfield 16, 3) := by decide +kernel
theorem dX8_back_29 : decode cX8_back 29 = .ok (.aload_n 0, 1) := by decide +kernel
theorem dX8_back_30 : decode cX8_back 30 = .ok (.getfield 32, 3) := by decide +kernel
theorem dX8_back_33 : decode cX8_back 33 = .ok (.sipush 240, 3) := by decide +kernel
theorem dX8_back_36 : decode cX8_back 36 = .ok (.aload_n 0, 1) := by decide +kernel
theorem dX8_back_37 : decode cX8_back 37 = .ok (.getfield 212, 3) := by decide +kernel
theorem dX8_back_40 : decode cX8_back 40 = .ok (.imul, 1) := by decide +kernel
theorem dX8_back_41 : decode cX8_back 41 = .ok (.aload_n 0, 1) := by decide +kernel
theorem dX8_back_42 : decode cX8_back 42 = .ok (.getfield 35, 3) := by decide +kernel
theorem dX8_back_45 : decode cX8_back 45 = .ok (.aload_n 0, 1) := by decide +kernel
theorem dX8_back_46 : decode cX8_back 46 = .ok (.getfield 212, 3) := by decide +kernel
theorem dX8_back_49 : decode cX8_back 49 = .ok (.iaload, 1) := by decide +kernel
theorem dX8_back_50 : decode cX8_back 50 = .ok (.iconst 0, 1) := by decide +kernel
theorem dX8_back_51 : decode cX8_back 51 = .ok (.invokevirtual 206, 3) := by decide +kernel
theorem dX8_back_54 : decode cX8_back 54 = .ok (.istore_n 1, 1) := by decide +kernel
theorem dX8_back_55 : decode cX8_back 55 = .ok (.iconst 1, 1) := by decide +kernel
theorem dX8_back_56 : decode cX8_back 56 = .ok (.ireturn, 1) := by decide +kernel
theorem dX8_node_0 : decode cX8_node 0 = .ok (.aload_n 0, 1) := by decide +kernel
theorem dX8_node_1 : decode cX8_node 1 = .ok (.iconst 0, 1) := by decide +kernel
theorem dX8_node_2 : decode cX8_node 2 = .ok (.putfield 103, 3) := by decide +kernel
theorem dX8_node_5 : decode cX8_node 5 = .ok (.aload_n 0, 1) := by decide +kernel
theorem dX8_node_6 : decode cX8_node 6 = .ok (.iload_n 1, 1) := by decide +kernel
theorem dX8_node_7 : decode cX8_node 7 = .ok (.invokevirtual 224, 3) := by decide +kernel
theorem dX8_node_10 : decode cX8_node 10 = .ok (.ifCond .ne 5, 3) := by decide +kernel
theorem dX8_node_13 : decode cX8_node 13 = .ok (.iconst (-1), 1) := by decide +kernel
theorem dX8_node_14 : decode cX8_node 14 = .ok (.ireturn, 1) := by decide +kernel
theorem dX8_node_15 : decode cX8_node 15 = .ok (.iload_n 2, 1) := by decide +kernel
theorem dX8_node_16 : decode cX8_node 16 = .ok (.tableswitch 72 0 3 #[32, 42, 52, 62], 32) := by decide +kernel
theorem dX8_node_48 : decode cX8_node 48 = .ok (.aload_n 0, 1) := by decide +kernel
theorem dX8_node_49 : decode cX8_node 49 = .ok (.getfield 16, 3) := by decide +kernel
theorem dX8_node_52 : decode cX8_node 52 = .ok (.getfield 128, 3) := by decide +kernel
theorem dX8_node_55 : decode cX8_node 55 = .ok (.iload_n 1, 1) := by decide +kernel
theorem dX8_node_56 : decode cX8_node 56 = .ok (.iaload, 1) := by decide +kernel
theorem dX8_node_57 : decode cX8_node 57 = .ok (.ireturn, 1) := by decide +kernel
theorem dX8_node_58 : decode cX8_node 58 = .ok (.aload_n 0, 1) := by decide +kernel
theorem dX8_node_59 : decode cX8_node 59 = .ok (.getfield 16, 3) := by decide +kernel
theorem dX8_node_62 : decode cX8_node 62 = .ok (.getfield 154, 3) := by decide +kernel
theorem dX8_node_65 : decode cX8_node 65 = .ok (.iload_n 1, 1) := by decide +kernel
theorem dX8_node_66 : decode cX8_node 66 = .ok (.iaload, 1) := by decide +kernel
theorem dX8_node_67 : decode cX8_node 67 = .ok (.ireturn, 1) := by decide +kernel
theorem dX8_node_68 : decode cX8_node 68 = .ok (.aload_n 0, 1) := by decide +kernel
theorem dX8_node_69 : decode cX8_node 69 = .ok (.getfield 16, 3) := by decide +kernel
theorem dX8_node_72 : decode cX8_node 72 = .ok (.getfield 134, 3) := by decide +kernel
theorem dX8_node_75 : decode cX8_node 75 = .ok (.iload_n 1, 1) := by decide +kernel
theorem dX8_node_76 : decode cX8_node 76 = .ok (.iaload, 1) := by decide +kernel
theorem dX8_node_77 : decode cX8_node 77 = .ok (.ireturn, 1) := by decide +kernel
theorem dX8_node_78 : decode cX8_node 78 = .ok (.aload_n 0, 1) := by decide +kernel
theorem dX8_node_79 : decode cX8_node 79 = .ok (.getfield 16, 3) := by decide +kernel
theorem dX8_node_82 : decode cX8_node 82 = .ok (.getfield 131, 3) := by decide +kernel
theorem dX8_node_85 : decode cX8_node 85 = .ok (.iload_n 1, 1) := by decide +kernel
theorem dX8_node_86 : decode cX8_node 86 = .ok (.iaload, 1) := by decide +kernel
theorem dX8_node_87 : decode cX8_node 87 = .ok (.ireturn, 1) := by decide +kernel
theorem dX8_node_88 : decode cX8_node 88 = .ok (.iconst (-1), 1) := by decide +kernel
theorem dX8_node_89 : decode cX8_node 89 = .ok (.ireturn, 1) := by decide +kernel
theorem dX8_at_0 : decode cX8_at 0 = .ok (.aload_n 0, 1) := by decide +kernel
theorem dX8_at_1 : decode cX8_at 1 = .ok (.iload_n 1, 1) := by decide +kernel
theorem dX8_at_2 : decode cX8_at 2 = .ok (.ifCond .lt 14, 3) := by decide +kernel
theorem dX8_at_5 : decode cX8_at 5 = .ok (.iload_n 1, 1) := by decide +kernel
theorem dX8_at_6 : decode cX8_at 6 = .ok (.aload_n 0, 1) := by decide +kernel
theorem dX8_at_7 : decode cX8_at 7 = .ok (.getfield 16, 3) := by decide +kernel
theorem dX8_at_10 : decode cX8_at 10 = .ok (.getfield 112, 3) := by decide +kernel
theorem dX8_at_13 : decode cX8_at 13 = .ok (.if_icmp .lt 7, 3) := by decide +kernel
theorem dX8_at_16 : decode cX8_at 16 = .ok (.iconst 1, 1) := by decide +kernel
theorem dX8_at_17 : decode cX8_at 17 = .ok (.goto 4, 3) := by decide +kernel
theorem dX8_at_20 : decode cX8_at 20 = .ok (.iconst 0, 1) := by decide +kernel
theorem dX8_at_21 : decode cX8_at 21 = .ok (.putfield 103, 3) := by decide +kernel
theorem dX8_at_24 : decode cX8_at 24 = .ok (.aload_n 0, 1) := by decide +kernel
theorem dX8_at_25 : decode cX8_at 25 = .ok (.getfield 103, 3) := by decide +kernel
theorem dX8_at_28 : decode cX8_at 28 = .ok (.ifCond .le 7, 3) := by decide +kernel
theorem dX8_at_31 : decode cX8_at 31 = .ok (.iconst 0, 1) := by decide +kernel
theorem dX8_at_32 : decode cX8_at 32 = .ok (.goto 16, 3) := by decide +kernel
theorem dX8_at_35 : decode cX8_at 35 = .ok (.aload_n 0, 1) := by decide +kernel
theorem dX8_at_36 : decode cX8_at 36 = .ok (.getfield 16, 3) := by decide +kernel
theorem dX8_at_39 : decode cX8_at 39 = .ok (.getfield 113, 3) := by decide +kernel
theorem dX8_at_42 : decode cX8_at 42 = .ok (.iload_n 1, 1) := by decide +kernel
theorem dX8_at_43 : decode cX8_at 43 = .ok (.baload, 1) := by decide +kernel
theorem dX8_at_44 : decode cX8_at 44 = .ok (.sipush 255, 3) := by decide +kernel
theorem dX8_at_47 : decode cX8_at 47 = .ok (.iand, 1) := by decide +kernel
theorem dX8_at_48 : decode cX8_at 48 = .ok (.ireturn, 1) := by decide +kernel
theorem dX8_count_0 : decode cX8_count 0 = .ok (.aload_n 0, 1) := by decide +kernel
theorem dX8_count_1 : decode cX8_count 1 = .ok (.iconst 0, 1) := by decide +kernel
theorem dX8_count_2 : decode cX8_count 2 = .ok (.putfield 103, 3) := by decide +kernel
theorem dX8_count_5 : decode cX8_count 5 = .ok (.iload_n 1, 1) := by decide +kernel
theorem dX8_count_6 : decode cX8_count 6 = .ok (.tableswitch 68 0 4 #[34, 42, 50, 58, 63], 34) := by decide +kernel
theorem dX8_count_40 : decode cX8_count 40 = .ok (.aload_n 0, 1) := by decide +kernel
theorem dX8_count_41 : decode cX8_count 41 = .ok (.getfield 16, 3) := by decide +kernel
theorem dX8_count_44 : decode cX8_count 44 = .ok (.getfield 112, 3) := by decide +kernel
theorem dX8_count_47 : decode cX8_count 47 = .ok (.ireturn, 1) := by decide +kernel
theorem dX8_count_48 : decode cX8_count 48 = .ok (.aload_n 0, 1) := by decide +kernel
theorem dX8_count_49 : decode cX8_count 49 = .ok (.getfield 20, 3) := by decide +kernel
theorem dX8_count_52 : decode cX8_count 52 = .ok (.getfield 112, 3) := by decide +kernel
theorem dX8_count_55 : decode cX8_count 55 = .ok (.ireturn, 1) := by decide +kernel
theorem dX8_count_56 : decode cX8_count 56 = .ok (.aload_n 0, 1) := by decide +kernel
theorem dX8_count_57 : decode cX8_count 57 = .ok (.getfield 23, 3) := by decide +kernel
theorem dX8_count_60 : decode cX8_count 60 = .ok (.getfield 112, 3) := by decide +kernel
theorem dX8_count_63 : decode cX8_count 63 = .ok (.ireturn, 1) := by decide +kernel
theorem dX8_count_64 : decode cX8_count 64 = .ok (.aload_n 0, 1) := by decide +kernel
theorem dX8_count_65 : decode cX8_count 65 = .ok (.getfield 95, 3) := by decide +kernel
theorem dX8_count_68 : decode cX8_count 68 = .ok (.ireturn, 1) := by decide +kernel
theorem dX8_count_69 : decode cX8_count 69 = .ok (.aload_n 0, 1) := by decide +kernel
theorem dX8_count_70 : decode cX8_count 70 = .ok (.getfield 212, 3) := by decide +kernel
theorem dX8_count_73 : decode cX8_count 73 = .ok (.ireturn, 1) := by decide +kernel
theorem dX8_count_74 : decode cX8_count 74 = .ok (.iconst (-1), 1) := by decide +kernel
theorem dX8_count_75 : decode cX8_count 75 = .ok (.ireturn, 1) := by decide +kernel
theorem dL_at_0 : decode cL_at 0 = .ok (.aload_n 2, 1) := by decide +kernel
theorem dL_at_1 : decode cL_at 1 = .ok (.iconst 0, 1) := by decide +kernel
theorem dL_at_2 : decode cL_at 2 = .ok (.aload_n 0, 1) := by decide +kernel
theorem dL_at_3 : decode cL_at 3 = .ok (.iload_n 1, 1) := by decide +kernel
theorem dL_at_4 : decode cL_at 4 = .ok (.invokevirtual 7, 3) := by decide +kernel
theorem dL_at_7 : decode cL_at 7 = .ok (.i2l, 1) := by decide +kernel
theorem dL_at_8 : decode cL_at 8 = .ok (.lastore, 1) := by decide +kernel
theorem dL_at_9 : decode cL_at 9 = .ok (.goto 6, 3) := by decide +kernel
theorem dL_at_12 : decode cL_at 12 = .ok (.astore_n 3, 1) := by decide +kernel
theorem dL_at_13 : decode cL_at 13 = .ok (.iconst 1, 1) := by decide +kernel
theorem dL_at_14 : decode cL_at 14 = .ok (.ireturn, 1) := by decide +kernel
theorem dL_at_15 : decode cL_at 15 = .ok (.iconst 0, 1) := by decide +kernel
theorem dL_at_16 : decode cL_at 16 = .ok (.ireturn, 1) := by decide +kernel
theorem dL_law_0 : decode cL_law 0 = .ok (.new 8, 3) := by decide +kernel
theorem dL_law_3 : decode cL_law 3 = .ok (.dup, 1) := by decide +kernel
theorem dL_law_4 : decode cL_law 4 = .ok (.invokespecial 15, 3) := by decide +kernel
theorem dL_law_7 : decode cL_law 7 = .ok (.astore_n 1, 1) := by decide +kernel
theorem dL_law_8 : decode cL_law 8 = .ok (.new 16, 3) := by decide +kernel
theorem dL_law_11 : decode cL_law 11 = .ok (.dup, 1) := by decide +kernel
theorem dL_law_12 : decode cL_law 12 = .ok (.invokespecial 18, 3) := by decide +kernel
theorem dL_law_15 : decode cL_law 15 = .ok (.astore_n 2, 1) := by decide +kernel
theorem dL_law_16 : decode cL_law 16 = .ok (.iconst 1, 1) := by decide +kernel
theorem dL_law_17 : decode cL_law 17 = .ok (.newarray .long, 2) := by decide +kernel
theorem dL_law_19 : decode cL_law 19 = .ok (.astore_n 3, 1) := by decide +kernel
theorem dL_law_20 : decode cL_law 20 = .ok (.iconst 0, 1) := by decide +kernel
theorem dL_law_21 : decode cL_law 21 = .ok (.istore 4, 2) := by decide +kernel
theorem dL_law_23 : decode cL_law 23 = .ok (.iload 4, 2) := by decide +kernel
theorem dL_law_25 : decode cL_law 25 = .ok (.aload_n 0, 1) := by decide +kernel
theorem dL_law_26 : decode cL_law 26 = .ok (.arraylength, 1) := by decide +kernel
theorem dL_law_27 : decode cL_law 27 = .ok (.bipush 6, 2) := by decide +kernel
theorem dL_law_29 : decode cL_law 29 = .ok (.isub, 1) := by decide +kernel
theorem dL_law_30 : decode cL_law 30 = .ok (.if_icmp .gt 726, 3) := by decide +kernel
theorem dL_law_33 : decode cL_law 33 = .ok (.aload_n 0, 1) := by decide +kernel
theorem dL_law_34 : decode cL_law 34 = .ok (.iload 4, 2) := by decide +kernel
theorem dL_law_36 : decode cL_law 36 = .ok (.iaload, 1) := by decide +kernel
theorem dL_law_37 : decode cL_law 37 = .ok (.bipush 31, 2) := by decide +kernel
theorem dL_law_39 : decode cL_law 39 = .ok (.iand, 1) := by decide +kernel
theorem dL_law_40 : decode cL_law 40 = .ok (.tableswitch 710 0 18 #[92, 165, 190, 215, 240, 305, 318, 355, 392, 405, 430, 467, 504, 529, 566, 591, 616, 629, 685], 92) := by decide +kernel
theorem dL_law_132 : decode cL_law 132 = .ok (.aload_n 1, 1) := by decide +kernel
theorem dL_law_133 : decode cL_law 133 = .ok (.aload_n 0, 1) := by decide +kernel
theorem dL_law_134 : decode cL_law 134 = .ok (.iload 4, 2) := by decide +kernel
theorem dL_law_136 : decode cL_law 136 = .ok (.iconst 1, 1) := by decide +kernel
theorem dL_law_137 : decode cL_law 137 = .ok (.iadd, 1) := by decide +kernel
theorem dL_law_138 : decode cL_law 138 = .ok (.iaload, 1) := by decide +kernel
theorem dL_law_139 : decode cL_law 139 = .ok (.aload_n 0, 1) := by decide +kernel
theorem dL_law_140 : decode cL_law 140 = .ok (.iload 4, 2) := by decide +kernel
theorem dL_law_142 : decode cL_law 142 = .ok (.iconst 2, 1) := by decide +kernel
theorem dL_law_143 : decode cL_law 143 = .ok (.iadd, 1) := by decide +kernel
theorem dL_law_144 : decode cL_law 144 = .ok (.iaload, 1) := by decide +kernel
theorem dL_law_145 : decode cL_law 145 = .ok (.aload_n 0, 1) := by decide +kernel
theorem dL_law_146 : decode cL_law 146 = .ok (.iload 4, 2) := by decide +kernel
theorem dL_law_148 : decode cL_law 148 = .ok (.iconst 3, 1) := by decide +kernel
theorem dL_law_149 : decode cL_law 149 = .ok (.iadd, 1) := by decide +kernel
theorem dL_law_150 : decode cL_law 150 = .ok (.iaload, 1) := by decide +kernel
theorem dL_law_151 : decode cL_law 151 = .ok (.aload_n 0, 1) := by decide +kernel
theorem dL_law_152 : decode cL_law 152 = .ok (.iload 4, 2) := by decide +kernel
theorem dL_law_154 : decode cL_law 154 = .ok (.iconst 4, 1) := by decide +kernel
theorem dL_law_155 : decode cL_law 155 = .ok (.iadd, 1) := by decide +kernel
theorem dL_law_156 : decode cL_law 156 = .ok (.iaload, 1) := by decide +kernel
theorem dL_law_157 : decode cL_law 157 = .ok (.aload_n 0, 1) := by decide +kernel
theorem dL_law_158 : decode cL_law 158 = .ok (.iload 4, 2) := by decide +kernel
theorem dL_law_160 : decode cL_law 160 = .ok (.iconst 5, 1) := by decide +kernel
theorem dL_law_161 : decode cL_law 161 = .ok (.iadd, 1) := by decide +kernel
theorem dL_law_162 : decode cL_law 162 = .ok (.iaload, 1) := by decide +kernel
theorem dL_law_163 : decode cL_law 163 = .ok (.invokevirtual 19, 3) := by decide +kernel
theorem dL_law_166 : decode cL_law 166 = .ok (.aload_n 2, 1) := by decide +kernel
theorem dL_law_167 : decode cL_law 167 = .ok (.aload_n 0, 1) := by decide +kernel
theorem dL_law_168 : decode cL_law 168 = .ok (.iload 4, 2) := by decide +kernel
theorem dL_law_170 : decode cL_law 170 = .ok (.iconst 1, 1) := by decide +kernel
theorem dL_law_171 : decode cL_law 171 = .ok (.iadd, 1) := by decide +kernel
theorem dL_law_172 : decode cL_law 172 = .ok (.iaload, 1) := by decide +kernel
theorem dL_law_173 : decode cL_law 173 = .ok (.aload_n 0, 1) := by decide +kernel
theorem dL_law_174 : decode cL_law 174 = .ok (.iload 4, 2) := by decide +kernel
theorem dL_law_176 : decode cL_law 176 = .ok (.iconst 2, 1) := by decide +kernel
theorem dL_law_177 : decode cL_law 177 = .ok (.iadd, 1) := by decide +kernel
theorem dL_law_178 : decode cL_law 178 = .ok (.iaload, 1) := by decide +kernel
theorem dL_law_179 : decode cL_law 179 = .ok (.aload_n 0, 1) := by decide +kernel
theorem dL_law_180 : decode cL_law 180 = .ok (.iload 4, 2) := by decide +kernel
theorem dL_law_182 : decode cL_law 182 = .ok (.iconst 3, 1) := by decide +kernel
theorem dL_law_183 : decode cL_law 183 = .ok (.iadd, 1) := by decide +kernel
theorem dL_law_184 : decode cL_law 184 = .ok (.iaload, 1) := by decide +kernel
theorem dL_law_185 : decode cL_law 185 = .ok (.aload_n 0, 1) := by decide +kernel
theorem dL_law_186 : decode cL_law 186 = .ok (.iload 4, 2) := by decide +kernel
theorem dL_law_188 : decode cL_law 188 = .ok (.iconst 4, 1) := by decide +kernel
theorem dL_law_189 : decode cL_law 189 = .ok (.iadd, 1) := by decide +kernel
theorem dL_law_190 : decode cL_law 190 = .ok (.iaload, 1) := by decide +kernel
theorem dL_law_191 : decode cL_law 191 = .ok (.aload_n 0, 1) := by decide +kernel
theorem dL_law_192 : decode cL_law 192 = .ok (.iload 4, 2) := by decide +kernel
theorem dL_law_194 : decode cL_law 194 = .ok (.iconst 5, 1) := by decide +kernel
theorem dL_law_195 : decode cL_law 195 = .ok (.iadd, 1) := by decide +kernel
theorem dL_law_196 : decode cL_law 196 = .ok (.iaload, 1) := by decide +kernel
theorem dL_law_197 : decode cL_law 197 = .ok (.invokevirtual 23, 3) := by decide +kernel
theorem dL_law_200 : decode cL_law 200 = .ok (.if_icmp .eq 550, 3) := by decide +kernel
theorem dL_law_203 : decode cL_law 203 = .ok (.iconst 0, 1) := by decide +kernel
theorem dL_law_204 : decode cL_law 204 = .ok (.ireturn, 1) := by decide +kernel
theorem dL_law_205 : decode cL_law 205 = .ok (.aload_n 1, 1) := by decide +kernel
theorem dL_law_206 : decode cL_law 206 = .ok (.aload_n 0, 1) := by decide +kernel
theorem dL_law_207 : decode cL_law 207 = .ok (.iload 4, 2) := by decide +kernel
theorem dL_law_209 : decode cL_law 209 = .ok (.iconst 1, 1) := by decide +kernel
theorem dL_law_210 : decode cL_law 210 = .ok (.iadd, 1) := by decide +kernel
theorem dL_law_211 : decode cL_law 211 = .ok (.iaload, 1) := by decide +kernel
theorem dL_law_212 : decode cL_law 212 = .ok (.invokevirtual 24, 3) := by decide +kernel
theorem dL_law_215 : decode cL_law 215 = .ok (.aload_n 2, 1) := by decide +kernel
theorem dL_law_216 : decode cL_law 216 = .ok (.aload_n 0, 1) := by decide +kernel
theorem dL_law_217 : decode cL_law 217 = .ok (.iload 4, 2) := by decide +kernel
theorem dL_law_219 : decode cL_law 219 = .ok (.iconst 1, 1) := by decide +kernel
theorem dL_law_220 : decode cL_law 220 = .ok (.iadd, 1) := by decide +kernel
theorem dL_law_221 : decode cL_law 221 = .ok (.iaload, 1) := by decide +kernel
theorem dL_law_222 : decode cL_law 222 = .ok (.invokevirtual 28, 3) := by decide +kernel
theorem dL_law_225 : decode cL_law 225 = .ok (.if_icmp .eq 525, 3) := by decide +kernel
theorem dL_law_228 : decode cL_law 228 = .ok (.iconst 0, 1) := by decide +kernel
theorem dL_law_229 : decode cL_law 229 = .ok (.ireturn, 1) := by decide +kernel
theorem dL_law_230 : decode cL_law 230 = .ok (.aload_n 1, 1) := by decide +kernel
theorem dL_law_231 : decode cL_law 231 = .ok (.aload_n 0, 1) := by decide +kernel
theorem dL_law_232 : decode cL_law 232 = .ok (.iload 4, 2) := by decide +kernel
theorem dL_law_234 : decode cL_law 234 = .ok (.iconst 1, 1) := by decide +kernel
theorem dL_law_235 : decode cL_law 235 = .ok (.iadd, 1) := by decide +kernel
theorem dL_law_236 : decode cL_law 236 = .ok (.iaload, 1) := by decide +kernel
theorem dL_law_237 : decode cL_law 237 = .ok (.invokevirtual 29, 3) := by decide +kernel
theorem dL_law_240 : decode cL_law 240 = .ok (.aload_n 2, 1) := by decide +kernel
theorem dL_law_241 : decode cL_law 241 = .ok (.aload_n 0, 1) := by decide +kernel
theorem dL_law_242 : decode cL_law 242 = .ok (.iload 4, 2) := by decide +kernel
theorem dL_law_244 : decode cL_law 244 = .ok (.iconst 1, 1) := by decide +kernel
theorem dL_law_245 : decode cL_law 245 = .ok (.iadd, 1) := by decide +kernel
theorem dL_law_246 : decode cL_law 246 = .ok (.iaload, 1) := by decide +kernel
theorem dL_law_247 : decode cL_law 247 = .ok (.invokevirtual 32, 3) := by decide +kernel
theorem dL_law_250 : decode cL_law 250 = .ok (.if_icmp .eq 500, 3) := by decide +kernel
theorem dL_law_253 : decode cL_law 253 = .ok (.iconst 0, 1) := by decide +kernel
theorem dL_law_254 : decode cL_law 254 = .ok (.ireturn, 1) := by decide +kernel
theorem dL_law_255 : decode cL_law 255 = .ok (.aload_n 1, 1) := by decide +kernel
theorem dL_law_256 : decode cL_law 256 = .ok (.aload_n 0, 1) := by decide +kernel
theorem dL_law_257 : decode cL_law 257 = .ok (.iload 4, 2) := by decide +kernel
theorem dL_law_259 : decode cL_law 259 = .ok (.iconst 1, 1) := by decide +kernel
theorem dL_law_260 : decode cL_law 260 = .ok (.iadd, 1) := by decide +kernel
theorem dL_law_261 : decode cL_law 261 = .ok (.iaload, 1) := by decide +kernel
theorem dL_law_262 : decode cL_law 262 = .ok (.invokevirtual 33, 3) := by decide +kernel
theorem dL_law_265 : decode cL_law 265 = .ok (.aload_n 2, 1) := by decide +kernel
theorem dL_law_266 : decode cL_law 266 = .ok (.aload_n 0, 1) := by decide +kernel
theorem dL_law_267 : decode cL_law 267 = .ok (.iload 4, 2) := by decide +kernel
theorem dL_law_269 : decode cL_law 269 = .ok (.iconst 1, 1) := by decide +kernel
theorem dL_law_270 : decode cL_law 270 = .ok (.iadd, 1) := by decide +kernel
theorem dL_law_271 : decode cL_law 271 = .ok (.iaload, 1) := by decide +kernel
theorem dL_law_272 : decode cL_law 272 = .ok (.invokevirtual 36, 3) := by decide +kernel
theorem dL_law_275 : decode cL_law 275 = .ok (.if_icmp .eq 475, 3) := by decide +kernel
theorem dL_law_278 : decode cL_law 278 = .ok (.iconst 0, 1) := by decide +kernel
theorem dL_law_279 : decode cL_law 279 = .ok (.ireturn, 1) := by decide +kernel
theorem dL_law_280 : decode cL_law 280 = .ok (.aload_n 1, 1) := by decide +kernel
theorem dL_law_281 : decode cL_law 281 = .ok (.aload_n 0, 1) := by decide +kernel
theorem dL_law_282 : decode cL_law 282 = .ok (.iload 4, 2) := by decide +kernel
theorem dL_law_284 : decode cL_law 284 = .ok (.iconst 1, 1) := by decide +kernel
theorem dL_law_285 : decode cL_law 285 = .ok (.iadd, 1) := by decide +kernel
theorem dL_law_286 : decode cL_law 286 = .ok (.iaload, 1) := by decide +kernel
theorem dL_law_287 : decode cL_law 287 = .ok (.aload_n 0, 1) := by decide +kernel
theorem dL_law_288 : decode cL_law 288 = .ok (.iload 4, 2) := by decide +kernel
theorem dL_law_290 : decode cL_law 290 = .ok (.iconst 2, 1) := by decide +kernel
theorem dL_law_291 : decode cL_law 291 = .ok (.iadd, 1) := by decide +kernel
theorem dL_law_292 : decode cL_law 292 = .ok (.iaload, 1) := by decide +kernel
theorem dL_law_293 : decode cL_law 293 = .ok (.aload_n 0, 1) := by decide +kernel
theorem dL_law_294 : decode cL_law 294 = .ok (.iload 4, 2) := by decide +kernel
theorem dL_law_296 : decode cL_law 296 = .ok (.iconst 3, 1) := by decide +kernel
theorem dL_law_297 : decode cL_law 297 = .ok (.iadd, 1) := by decide +kernel
theorem dL_law_298 : decode cL_law 298 = .ok (.iaload, 1) := by decide +kernel
theorem dL_law_299 : decode cL_law 299 = .ok (.ifCond .eq 7, 3) := by decide +kernel
theorem dL_law_302 : decode cL_law 302 = .ok (.iconst 1, 1) := by decide +kernel
theorem dL_law_303 : decode cL_law 303 = .ok (.goto 4, 3) := by decide +kernel
theorem dL_law_306 : decode cL_law 306 = .ok (.iconst 0, 1) := by decide +kernel
theorem dL_law_307 : decode cL_law 307 = .ok (.invokevirtual 37, 3) := by decide +kernel
theorem dL_law_310 : decode cL_law 310 = .ok (.aload_n 2, 1) := by decide +kernel
theorem dL_law_311 : decode cL_law 311 = .ok (.aload_n 0, 1) := by decide +kernel
theorem dL_law_312 : decode cL_law 312 = .ok (.iload 4, 2) := by decide +kernel
theorem dL_law_314 : decode cL_law 314 = .ok (.iconst 1, 1) := by decide +kernel
theorem dL_law_315 : decode cL_law 315 = .ok (.iadd, 1) := by decide +kernel
theorem dL_law_316 : decode cL_law 316 = .ok (.iaload, 1) := by decide +kernel
theorem dL_law_317 : decode cL_law 317 = .ok (.aload_n 0, 1) := by decide +kernel
theorem dL_law_318 : decode cL_law 318 = .ok (.iload 4, 2) := by decide +kernel
theorem dL_law_320 : decode cL_law 320 = .ok (.iconst 2, 1) := by decide +kernel
theorem dL_law_321 : decode cL_law 321 = .ok (.iadd, 1) := by decide +kernel
theorem dL_law_322 : decode cL_law 322 = .ok (.iaload, 1) := by decide +kernel
theorem dL_law_323 : decode cL_law 323 = .ok (.aload_n 0, 1) := by decide +kernel
theorem dL_law_324 : decode cL_law 324 = .ok (.iload 4, 2) := by decide +kernel
theorem dL_law_326 : decode cL_law 326 = .ok (.iconst 3, 1) := by decide +kernel
theorem dL_law_327 : decode cL_law 327 = .ok (.iadd, 1) := by decide +kernel
theorem dL_law_328 : decode cL_law 328 = .ok (.iaload, 1) := by decide +kernel
theorem dL_law_329 : decode cL_law 329 = .ok (.ifCond .eq 7, 3) := by decide +kernel
theorem dL_law_332 : decode cL_law 332 = .ok (.iconst 1, 1) := by decide +kernel
theorem dL_law_333 : decode cL_law 333 = .ok (.goto 4, 3) := by decide +kernel
theorem dL_law_336 : decode cL_law 336 = .ok (.iconst 0, 1) := by decide +kernel
theorem dL_law_337 : decode cL_law 337 = .ok (.invokevirtual 41, 3) := by decide +kernel
theorem dL_law_340 : decode cL_law 340 = .ok (.if_icmp .eq 410, 3) := by decide +kernel
theorem dL_law_343 : decode cL_law 343 = .ok (.iconst 0, 1) := by decide +kernel
theorem dL_law_344 : decode cL_law 344 = .ok (.ireturn, 1) := by decide +kernel
theorem dL_law_345 : decode cL_law 345 = .ok (.aload_n 1, 1) := by decide +kernel
theorem dL_law_346 : decode cL_law 346 = .ok (.invokevirtual 42, 3) := by decide +kernel
theorem dL_law_349 : decode cL_law 349 = .ok (.aload_n 2, 1) := by decide +kernel
theorem dL_law_350 : decode cL_law 350 = .ok (.invokevirtual 46, 3) := by decide +kernel
theorem dL_law_353 : decode cL_law 353 = .ok (.if_icmp .eq 397, 3) := by decide +kernel
theorem dL_law_356 : decode cL_law 356 = .ok (.iconst 0, 1) := by decide +kernel
theorem dL_law_357 : decode cL_law 357 = .ok (.ireturn, 1) := by decide +kernel
theorem dL_law_358 : decode cL_law 358 = .ok (.aload_n 1, 1) := by decide +kernel
theorem dL_law_359 : decode cL_law 359 = .ok (.aload_n 0, 1) := by decide +kernel
theorem dL_law_360 : decode cL_law 360 = .ok (.iload 4, 2) := by decide +kernel
theorem dL_law_362 : decode cL_law 362 = .ok (.iconst 1, 1) := by decide +kernel
theorem dL_law_363 : decode cL_law 363 = .ok (.iadd, 1) := by decide +kernel
theorem dL_law_364 : decode cL_law 364 = .ok (.iaload, 1) := by decide +kernel
theorem dL_law_365 : decode cL_law 365 = .ok (.aload_n 0, 1) := by decide +kernel
theorem dL_law_366 : decode cL_law 366 = .ok (.iload 4, 2) := by decide +kernel
theorem dL_law_368 : decode cL_law 368 = .ok (.iconst 2, 1) := by decide +kernel
theorem dL_law_369 : decode cL_law 369 = .ok (.iadd, 1) := by decide +kernel
