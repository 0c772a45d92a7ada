theorem dX8_impose_126 : decode cX8_impose 126 = .ok (.istore 9, 2) := by decide +kernel
theorem dX8_impose_128 : decode cX8_impose 128 = .ok (.iload 9, 2) := by decide +kernel
theorem dX8_impose_130 : decode cX8_impose 130 = .ok (.iload_n 3, 1) := by decide +kernel
theorem dX8_impose_131 : decode cX8_impose 131 = .ok (.if_icmp .ge 44, 3) := by decide +kernel
theorem dX8_impose_134 : decode cX8_impose 134 = .ok (.aload_n 0, 1) := by decide +kernel
theorem dX8_impose_135 : decode cX8_impose 135 = .ok (.getfield 28, 3) := by decide +kernel
theorem dX8_impose_138 : decode cX8_impose 138 = .ok (.iload 4, 2) := by decide +kernel
theorem dX8_impose_140 : decode cX8_impose 140 = .ok (.iload 9, 2) := by decide +kernel
theorem dX8_impose_142 : decode cX8_impose 142 = .ok (.iadd, 1) := by decide +kernel
theorem dX8_impose_143 : decode cX8_impose 143 = .ok (.iload 7, 2) := by decide +kernel
theorem dX8_impose_145 : decode cX8_impose 145 = .ok (.aload_n 0, 1) := by decide +kernel
theorem dX8_impose_146 : decode cX8_impose 146 = .ok (.getfield 37, 3) := by decide +kernel
theorem dX8_impose_149 : decode cX8_impose 149 = .ok (.iload 9, 2) := by decide +kernel
theorem dX8_impose_151 : decode cX8_impose 151 = .ok (.iaload, 1) := by decide +kernel
theorem dX8_impose_152 : decode cX8_impose 152 = .ok (.imul, 1) := by decide +kernel
theorem dX8_impose_153 : decode cX8_impose 153 = .ok (.iload 8, 2) := by decide +kernel
theorem dX8_impose_155 : decode cX8_impose 155 = .ok (.aload_n 0, 1) := by decide +kernel
theorem dX8_impose_156 : decode cX8_impose 156 = .ok (.getfield 34, 3) := by decide +kernel
theorem dX8_impose_159 : decode cX8_impose 159 = .ok (.iload 9, 2) := by decide +kernel
theorem dX8_impose_161 : decode cX8_impose 161 = .ok (.iaload, 1) := by decide +kernel
theorem dX8_impose_162 : decode cX8_impose 162 = .ok (.imul, 1) := by decide +kernel
theorem dX8_impose_163 : decode cX8_impose 163 = .ok (.isub, 1) := by decide +kernel
theorem dX8_impose_164 : decode cX8_impose 164 = .ok (.iload_n 1, 1) := by decide +kernel
theorem dX8_impose_165 : decode cX8_impose 165 = .ok (.invokestatic 160, 3) := by decide +kernel
theorem dX8_impose_168 : decode cX8_impose 168 = .ok (.iastore, 1) := by decide +kernel
theorem dX8_impose_169 : decode cX8_impose 169 = .ok (.iinc 9 1, 3) := by decide +kernel
theorem dX8_impose_172 : decode cX8_impose 172 = .ok (.goto (-44), 3) := by decide +kernel
theorem dX8_impose_175 : decode cX8_impose 175 = .ok (.aload_n 0, 1) := by decide +kernel
theorem dX8_impose_176 : decode cX8_impose 176 = .ok (.getfield 28, 3) := by decide +kernel
theorem dX8_impose_179 : decode cX8_impose 179 = .ok (.iload 4, 2) := by decide +kernel
theorem dX8_impose_181 : decode cX8_impose 181 = .ok (.iload_n 3, 1) := by decide +kernel
theorem dX8_impose_182 : decode cX8_impose 182 = .ok (.iadd, 1) := by decide +kernel
theorem dX8_impose_183 : decode cX8_impose 183 = .ok (.iload 7, 2) := by decide +kernel
theorem dX8_impose_185 : decode cX8_impose 185 = .ok (.aload_n 0, 1) := by decide +kernel
theorem dX8_impose_186 : decode cX8_impose 186 = .ok (.getfield 37, 3) := by decide +kernel
theorem dX8_impose_189 : decode cX8_impose 189 = .ok (.iload_n 3, 1) := by decide +kernel
theorem dX8_impose_190 : decode cX8_impose 190 = .ok (.iaload, 1) := by decide +kernel
theorem dX8_impose_191 : decode cX8_impose 191 = .ok (.imul, 1) := by decide +kernel
theorem dX8_impose_192 : decode cX8_impose 192 = .ok (.iastore, 1) := by decide +kernel
theorem dX8_impose_193 : decode cX8_impose 193 = .ok (.iconst 0, 1) := by decide +kernel
theorem dX8_impose_194 : decode cX8_impose 194 = .ok (.istore 9, 2) := by decide +kernel
theorem dX8_impose_196 : decode cX8_impose 196 = .ok (.iload 9, 2) := by decide +kernel
theorem dX8_impose_198 : decode cX8_impose 198 = .ok (.iload_n 3, 1) := by decide +kernel
theorem dX8_impose_199 : decode cX8_impose 199 = .ok (.if_icmp .gt 45, 3) := by decide +kernel
theorem dX8_impose_202 : decode cX8_impose 202 = .ok (.aload_n 0, 1) := by decide +kernel
theorem dX8_impose_203 : decode cX8_impose 203 = .ok (.getfield 34, 3) := by decide +kernel
theorem dX8_impose_206 : decode cX8_impose 206 = .ok (.iload 9, 2) := by decide +kernel
theorem dX8_impose_208 : decode cX8_impose 208 = .ok (.aload_n 0, 1) := by decide +kernel
theorem dX8_impose_209 : decode cX8_impose 209 = .ok (.getfield 151, 3) := by decide +kernel
theorem dX8_impose_212 : decode cX8_impose 212 = .ok (.aload_n 0, 1) := by decide +kernel
theorem dX8_impose_213 : decode cX8_impose 213 = .ok (.getfield 34, 3) := by decide +kernel
theorem dX8_impose_216 : decode cX8_impose 216 = .ok (.iload 9, 2) := by decide +kernel
theorem dX8_impose_218 : decode cX8_impose 218 = .ok (.iaload, 1) := by decide +kernel
theorem dX8_impose_219 : decode cX8_impose 219 = .ok (.imul, 1) := by decide +kernel
theorem dX8_impose_220 : decode cX8_impose 220 = .ok (.aload_n 0, 1) := by decide +kernel
theorem dX8_impose_221 : decode cX8_impose 221 = .ok (.getfield 154, 3) := by decide +kernel
theorem dX8_impose_224 : decode cX8_impose 224 = .ok (.aload_n 0, 1) := by decide +kernel
theorem dX8_impose_225 : decode cX8_impose 225 = .ok (.getfield 37, 3) := by decide +kernel
theorem dX8_impose_228 : decode cX8_impose 228 = .ok (.iload 9, 2) := by decide +kernel
theorem dX8_impose_230 : decode cX8_impose 230 = .ok (.iaload, 1) := by decide +kernel
theorem dX8_impose_231 : decode cX8_impose 231 = .ok (.imul, 1) := by decide +kernel
theorem dX8_impose_232 : decode cX8_impose 232 = .ok (.iadd, 1) := by decide +kernel
theorem dX8_impose_233 : decode cX8_impose 233 = .ok (.iload_n 1, 1) := by decide +kernel
theorem dX8_impose_234 : decode cX8_impose 234 = .ok (.invokestatic 160, 3) := by decide +kernel
theorem dX8_impose_237 : decode cX8_impose 237 = .ok (.iastore, 1) := by decide +kernel
theorem dX8_impose_238 : decode cX8_impose 238 = .ok (.iinc 9 1, 3) := by decide +kernel
theorem dX8_impose_241 : decode cX8_impose 241 = .ok (.goto (-45), 3) := by decide +kernel
theorem dX8_impose_244 : decode cX8_impose 244 = .ok (.iload 6, 2) := by decide +kernel
theorem dX8_impose_246 : decode cX8_impose 246 = .ok (.istore_n 2, 1) := by decide +kernel
theorem dX8_impose_247 : decode cX8_impose 247 = .ok (.iinc 3 1, 3) := by decide +kernel
theorem dX8_impose_250 : decode cX8_impose 250 = .ok (.goto (-218), 3) := by decide +kernel
theorem dX8_impose_253 : decode cX8_impose 253 = .ok (.return_, 1) := by decide +kernel
theorem dX8_reduce_0 : decode cX8_reduce 0 = .ok (.iconst 0, 1) := by decide +kernel
theorem dX8_reduce_1 : decode cX8_reduce 1 = .ok (.istore_n 1, 1) := by decide +kernel
theorem dX8_reduce_2 : decode cX8_reduce 2 = .ok (.iload_n 1, 1) := by decide +kernel
theorem dX8_reduce_3 : decode cX8_reduce 3 = .ok (.aload_n 0, 1) := by decide +kernel
theorem dX8_reduce_4 : decode cX8_reduce 4 = .ok (.getfield 148, 3) := by decide +kernel
theorem dX8_reduce_7 : decode cX8_reduce 7 = .ok (.if_icmp .ge 124, 3) := by decide +kernel
theorem dX8_reduce_10 : decode cX8_reduce 10 = .ok (.iload_n 1, 1) := by decide +kernel
theorem dX8_reduce_11 : decode cX8_reduce 11 = .ok (.iconst 1, 1) := by decide +kernel
theorem dX8_reduce_12 : decode cX8_reduce 12 = .ok (.isub, 1) := by decide +kernel
theorem dX8_reduce_13 : decode cX8_reduce 13 = .ok (.istore_n 2, 1) := by decide +kernel
theorem dX8_reduce_14 : decode cX8_reduce 14 = .ok (.iload_n 2, 1) := by decide +kernel
theorem dX8_reduce_15 : decode cX8_reduce 15 = .ok (.ifCond .lt 110, 3) := by decide +kernel
theorem dX8_reduce_18 : decode cX8_reduce 18 = .ok (.aload_n 0, 1) := by decide +kernel
theorem dX8_reduce_19 : decode cX8_reduce 19 = .ok (.getfield 28, 3) := by decide +kernel
theorem dX8_reduce_22 : decode cX8_reduce 22 = .ok (.bipush 37, 2) := by decide +kernel
theorem dX8_reduce_24 : decode cX8_reduce 24 = .ok (.iload_n 1, 1) := by decide +kernel
theorem dX8_reduce_25 : decode cX8_reduce 25 = .ok (.imul, 1) := by decide +kernel
theorem dX8_reduce_26 : decode cX8_reduce 26 = .ok (.iload_n 2, 1) := by decide +kernel
theorem dX8_reduce_27 : decode cX8_reduce 27 = .ok (.iadd, 1) := by decide +kernel
theorem dX8_reduce_28 : decode cX8_reduce 28 = .ok (.iaload, 1) := by decide +kernel
theorem dX8_reduce_29 : decode cX8_reduce 29 = .ok (.aload_n 0, 1) := by decide +kernel
theorem dX8_reduce_30 : decode cX8_reduce 30 = .ok (.getfield 28, 3) := by decide +kernel
theorem dX8_reduce_33 : decode cX8_reduce 33 = .ok (.bipush 37, 2) := by decide +kernel
theorem dX8_reduce_35 : decode cX8_reduce 35 = .ok (.iload_n 2, 1) := by decide +kernel
theorem dX8_reduce_36 : decode cX8_reduce 36 = .ok (.imul, 1) := by decide +kernel
theorem dX8_reduce_37 : decode cX8_reduce 37 = .ok (.iload_n 2, 1) := by decide +kernel
theorem dX8_reduce_38 : decode cX8_reduce 38 = .ok (.iadd, 1) := by decide +kernel
theorem dX8_reduce_39 : decode cX8_reduce 39 = .ok (.iaload, 1) := by decide +kernel
theorem dX8_reduce_40 : decode cX8_reduce 40 = .ok (.idiv, 1) := by decide +kernel
theorem dX8_reduce_41 : decode cX8_reduce 41 = .ok (.istore_n 3, 1) := by decide +kernel
theorem dX8_reduce_42 : decode cX8_reduce 42 = .ok (.iconst 0, 1) := by decide +kernel
theorem dX8_reduce_43 : decode cX8_reduce 43 = .ok (.istore 4, 2) := by decide +kernel
theorem dX8_reduce_45 : decode cX8_reduce 45 = .ok (.iload 4, 2) := by decide +kernel
theorem dX8_reduce_47 : decode cX8_reduce 47 = .ok (.iload_n 2, 1) := by decide +kernel
theorem dX8_reduce_48 : decode cX8_reduce 48 = .ok (.if_icmp .gt 71, 3) := by decide +kernel
theorem dX8_reduce_51 : decode cX8_reduce 51 = .ok (.iload_n 3, 1) := by decide +kernel
theorem dX8_reduce_52 : decode cX8_reduce 52 = .ok (.ifCond .eq 67, 3) := by decide +kernel
theorem dX8_reduce_55 : decode cX8_reduce 55 = .ok (.aload_n 0, 1) := by decide +kernel
theorem dX8_reduce_56 : decode cX8_reduce 56 = .ok (.getfield 28, 3) := by decide +kernel
theorem dX8_reduce_59 : decode cX8_reduce 59 = .ok (.bipush 37, 2) := by decide +kernel
theorem dX8_reduce_61 : decode cX8_reduce 61 = .ok (.iload_n 1, 1) := by decide +kernel
theorem dX8_reduce_62 : decode cX8_reduce 62 = .ok (.imul, 1) := by decide +kernel
theorem dX8_reduce_63 : decode cX8_reduce 63 = .ok (.iload 4, 2) := by decide +kernel
theorem dX8_reduce_65 : decode cX8_reduce 65 = .ok (.iadd, 1) := by decide +kernel
theorem dX8_reduce_66 : decode cX8_reduce 66 = .ok (.aload_n 0, 1) := by decide +kernel
theorem dX8_reduce_67 : decode cX8_reduce 67 = .ok (.getfield 28, 3) := by decide +kernel
theorem dX8_reduce_70 : decode cX8_reduce 70 = .ok (.bipush 37, 2) := by decide +kernel
theorem dX8_reduce_72 : decode cX8_reduce 72 = .ok (.iload_n 1, 1) := by decide +kernel
theorem dX8_reduce_73 : decode cX8_reduce 73 = .ok (.imul, 1) := by decide +kernel
theorem dX8_reduce_74 : decode cX8_reduce 74 = .ok (.iload 4, 2) := by decide +kernel
theorem dX8_reduce_76 : decode cX8_reduce 76 = .ok (.iadd, 1) := by decide +kernel
theorem dX8_reduce_77 : decode cX8_reduce 77 = .ok (.iaload, 1) := by decide +kernel
theorem dX8_reduce_78 : decode cX8_reduce 78 = .ok (.iload_n 3, 1) := by decide +kernel
theorem dX8_reduce_79 : decode cX8_reduce 79 = .ok (.aload_n 0, 1) := by decide +kernel
theorem dX8_reduce_80 : decode cX8_reduce 80 = .ok (.getfield 28, 3) := by decide +kernel
theorem dX8_reduce_83 : decode cX8_reduce 83 = .ok (.bipush 37, 2) := by decide +kernel
theorem dX8_reduce_85 : decode cX8_reduce 85 = .ok (.iload_n 2, 1) := by decide +kernel
theorem dX8_reduce_86 : decode cX8_reduce 86 = .ok (.imul, 1) := by decide +kernel
theorem dX8_reduce_87 : decode cX8_reduce 87 = .ok (.iload 4, 2) := by decide +kernel
theorem dX8_reduce_89 : decode cX8_reduce 89 = .ok (.iadd, 1) := by decide +kernel
theorem dX8_reduce_90 : decode cX8_reduce 90 = .ok (.iaload, 1) := by decide +kernel
theorem dX8_reduce_91 : decode cX8_reduce 91 = .ok (.imul, 1) := by decide +kernel
theorem dX8_reduce_92 : decode cX8_reduce 92 = .ok (.isub, 1) := by decide +kernel
theorem dX8_reduce_93 : decode cX8_reduce 93 = .ok (.iload 4, 2) := by decide +kernel
theorem dX8_reduce_95 : decode cX8_reduce 95 = .ok (.iload_n 2, 1) := by decide +kernel
theorem dX8_reduce_96 : decode cX8_reduce 96 = .ok (.if_icmp .ne 9, 3) := by decide +kernel
theorem dX8_reduce_99 : decode cX8_reduce 99 = .ok (.sipush 1000, 3) := by decide +kernel
theorem dX8_reduce_102 : decode cX8_reduce 102 = .ok (.goto 7, 3) := by decide +kernel
theorem dX8_reduce_105 : decode cX8_reduce 105 = .ok (.aload_n 0, 1) := by decide +kernel
theorem dX8_reduce_106 : decode cX8_reduce 106 = .ok (.invokevirtual 96, 3) := by decide +kernel
theorem dX8_reduce_109 : decode cX8_reduce 109 = .ok (.invokestatic 160, 3) := by decide +kernel
theorem dX8_reduce_112 : decode cX8_reduce 112 = .ok (.iastore, 1) := by decide +kernel
theorem dX8_reduce_113 : decode cX8_reduce 113 = .ok (.iinc 4 1, 3) := by decide +kernel
theorem dX8_reduce_116 : decode cX8_reduce 116 = .ok (.goto (-71), 3) := by decide +kernel
theorem dX8_reduce_119 : decode cX8_reduce 119 = .ok (.iinc 2 (-1), 3) := by decide +kernel
theorem dX8_reduce_122 : decode cX8_reduce 122 = .ok (.goto (-108), 3) := by decide +kernel
theorem dX8_reduce_125 : decode cX8_reduce 125 = .ok (.iinc 1 1, 3) := by decide +kernel
theorem dX8_reduce_128 : decode cX8_reduce 128 = .ok (.goto (-126), 3) := by decide +kernel
theorem dX8_reduce_131 : decode cX8_reduce 131 = .ok (.return_, 1) := by decide +kernel
theorem dX8_pivot_0 : decode cX8_pivot 0 = .ok (.aload_n 0, 1) := by decide +kernel
theorem dX8_pivot_1 : decode cX8_pivot 1 = .ok (.getfield 28, 3) := by decide +kernel
theorem dX8_pivot_4 : decode cX8_pivot 4 = .ok (.bipush 37, 2) := by decide +kernel
theorem dX8_pivot_6 : decode cX8_pivot 6 = .ok (.iload_n 1, 1) := by decide +kernel
theorem dX8_pivot_7 : decode cX8_pivot 7 = .ok (.imul, 1) := by decide +kernel
theorem dX8_pivot_8 : decode cX8_pivot 8 = .ok (.iload_n 1, 1) := by decide +kernel
theorem dX8_pivot_9 : decode cX8_pivot 9 = .ok (.iadd, 1) := by decide +kernel
theorem dX8_pivot_10 : decode cX8_pivot 10 = .ok (.iaload, 1) := by decide +kernel
theorem dX8_pivot_11 : decode cX8_pivot 11 = .ok (.ireturn, 1) := by decide +kernel
theorem dX8_pushings_0 : decode cX8_pushings 0 = .ok (.aload_n 0, 1) := by decide +kernel
theorem dX8_pushings_1 : decode cX8_pushings 1 = .ok (.invokevirtual 89, 3) := by decide +kernel
theorem dX8_pushings_4 : decode cX8_pushings 4 = .ok (.istore_n 1, 1) := by decide +kernel
theorem dX8_pushings_5 : decode cX8_pushings 5 = .ok (.aload_n 0, 1) := by decide +kernel
theorem dX8_pushings_6 : decode cX8_pushings 6 = .ok (.iload_n 1, 1) := by decide +kernel
theorem dX8_pushings_7 : decode cX8_pushings 7 = .ok (.iconst 1, 1) := by decide +kernel
theorem dX8_pushings_8 : decode cX8_pushings 8 = .ok (.iadd, 1) := by decide +kernel
theorem dX8_pushings_9 : decode cX8_pushings 9 = .ok (.invokevirtual 162, 3) := by decide +kernel
theorem dX8_pushings_12 : decode cX8_pushings 12 = .ok (.iconst 0, 1) := by decide +kernel
theorem dX8_pushings_13 : decode cX8_pushings 13 = .ok (.istore_n 2, 1) := by decide +kernel
theorem dX8_pushings_14 : decode cX8_pushings 14 = .ok (.iload_n 2, 1) := by decide +kernel
theorem dX8_pushings_15 : decode cX8_pushings 15 = .ok (.aload_n 0, 1) := by decide +kernel
theorem dX8_pushings_16 : decode cX8_pushings 16 = .ok (.invokevirtual 84, 3) := by decide +kernel
theorem dX8_pushings_19 : decode cX8_pushings 19 = .ok (.if_icmp .ge 62, 3) := by decide +kernel
theorem dX8_pushings_22 : decode cX8_pushings 22 = .ok (.iconst 0, 1) := by decide +kernel
theorem dX8_pushings_23 : decode cX8_pushings 23 = .ok (.istore_n 3, 1) := by decide +kernel
theorem dX8_pushings_24 : decode cX8_pushings 24 = .ok (.iload_n 3, 1) := by decide +kernel
theorem dX8_pushings_25 : decode cX8_pushings 25 = .ok (.iload_n 1, 1) := by decide +kernel
theorem dX8_pushings_26 : decode cX8_pushings 26 = .ok (.if_icmp .ge 21, 3) := by decide +kernel
theorem dX8_pushings_29 : decode cX8_pushings 29 = .ok (.aload_n 0, 1) := by decide +kernel
theorem dX8_pushings_30 : decode cX8_pushings 30 = .ok (.getfield 31, 3) := by decide +kernel
theorem dX8_pushings_33 : decode cX8_pushings 33 = .ok (.iload_n 3, 1) := by decide +kernel
theorem dX8_pushings_34 : decode cX8_pushings 34 = .ok (.aload_n 0, 1) := by decide +kernel
theorem dX8_pushings_35 : decode cX8_pushings 35 = .ok (.iload_n 3, 1) := by decide +kernel
theorem dX8_pushings_36 : decode cX8_pushings 36 = .ok (.iload_n 2, 1) := by decide +kernel
theorem dX8_pushings_37 : decode cX8_pushings 37 = .ok (.invokevirtual 134, 3) := by decide +kernel
theorem dX8_pushings_40 : decode cX8_pushings 40 = .ok (.iastore, 1) := by decide +kernel
theorem dX8_pushings_41 : decode cX8_pushings 41 = .ok (.iinc 3 1, 3) := by decide +kernel
theorem dX8_pushings_44 : decode cX8_pushings 44 = .ok (.goto (-20), 3) := by decide +kernel
theorem dX8_pushings_47 : decode cX8_pushings 47 = .ok (.aload_n 0, 1) := by decide +kernel
theorem dX8_pushings_48 : decode cX8_pushings 48 = .ok (.getfield 31, 3) := by decide +kernel
theorem dX8_pushings_51 : decode cX8_pushings 51 = .ok (.iload_n 1, 1) := by decide +kernel
theorem dX8_pushings_52 : decode cX8_pushings 52 = .ok (.aload_n 0, 1) := by decide +kernel
theorem dX8_pushings_53 : decode cX8_pushings 53 = .ok (.invokevirtual 96, 3) := by decide +kernel
theorem dX8_pushings_56 : decode cX8_pushings 56 = .ok (.aload_n 0, 1) := by decide +kernel
theorem dX8_pushings_57 : decode cX8_pushings 57 = .ok (.getfield 9, 3) := by decide +kernel
theorem dX8_pushings_60 : decode cX8_pushings 60 = .ok (.iconst 4, 1) := by decide +kernel
theorem dX8_pushings_61 : decode cX8_pushings 61 = .ok (.iload_n 2, 1) := by decide +kernel
theorem dX8_pushings_62 : decode cX8_pushings 62 = .ok (.iadd, 1) := by decide +kernel
theorem dX8_pushings_63 : decode cX8_pushings 63 = .ok (.iaload, 1) := by decide +kernel
theorem dX8_pushings_64 : decode cX8_pushings 64 = .ok (.isub, 1) := by decide +kernel
theorem dX8_pushings_65 : decode cX8_pushings 65 = .ok (.aload_n 0, 1) := by decide +kernel
theorem dX8_pushings_66 : decode cX8_pushings 66 = .ok (.invokevirtual 96, 3) := by decide +kernel
theorem dX8_pushings_69 : decode cX8_pushings 69 = .ok (.irem, 1) := by decide +kernel
theorem dX8_pushings_70 : decode cX8_pushings 70 = .ok (.iastore, 1) := by decide +kernel
theorem dX8_pushings_71 : decode cX8_pushings 71 = .ok (.aload_n 0, 1) := by decide +kernel
theorem dX8_pushings_72 : decode cX8_pushings 72 = .ok (.invokevirtual 166, 3) := by decide +kernel
theorem dX8_pushings_75 : decode cX8_pushings 75 = .ok (.iinc 2 1, 3) := by decide +kernel
theorem dX8_pushings_78 : decode cX8_pushings 78 = .ok (.goto (-64), 3) := by decide +kernel
theorem dX8_pushings_81 : decode cX8_pushings 81 = .ok (.iconst 0, 1) := by decide +kernel
theorem dX8_pushings_82 : decode cX8_pushings 82 = .ok (.istore_n 2, 1) := by decide +kernel
theorem dX8_pushings_83 : decode cX8_pushings 83 = .ok (.iload_n 2, 1) := by decide +kernel
theorem dX8_pushings_84 : decode cX8_pushings 84 = .ok (.iload_n 1, 1) := by decide +kernel
theorem dX8_pushings_85 : decode cX8_pushings 85 = .ok (.if_icmp .ge 16, 3) := by decide +kernel
theorem dX8_pushings_88 : decode cX8_pushings 88 = .ok (.aload_n 0, 1) := by decide +kernel
theorem dX8_pushings_89 : decode cX8_pushings 89 = .ok (.getfield 31, 3) := by decide +kernel
theorem dX8_pushings_92 : decode cX8_pushings 92 = .ok (.iload_n 2, 1) := by decide +kernel
theorem dX8_pushings_93 : decode cX8_pushings 93 = .ok (.iconst 0, 1) := by decide +kernel
theorem dX8_pushings_94 : decode cX8_pushings 94 = .ok (.iastore, 1) := by decide +kernel
theorem dX8_pushings_95 : decode cX8_pushings 95 = .ok (.iinc 2 1, 3) := by decide +kernel
theorem dX8_pushings_98 : decode cX8_pushings 98 = .ok (.goto (-15), 3) := by decide +kernel
theorem dX8_pushings_101 : decode cX8_pushings 101 = .ok (.aload_n 0, 1) := by decide +kernel
theorem dX8_pushings_102 : decode cX8_pushings 102 = .ok (.getfield 31, 3) := by decide +kernel
theorem dX8_pushings_105 : decode cX8_pushings 105 = .ok (.iload_n 1, 1) := by decide +kernel
theorem dX8_pushings_106 : decode cX8_pushings 106 = .ok (.iconst 0, 1) := by decide +kernel
theorem dX8_pushings_107 : decode cX8_pushings 107 = .ok (.iastore, 1) := by decide +kernel
theorem dX8_pushings_108 : decode cX8_pushings 108 = .ok (.iconst 0, 1) := by decide +kernel
theorem dX8_pushings_109 : decode cX8_pushings 109 = .ok (.istore_n 2, 1) := by decide +kernel
theorem dX8_pushings_110 : decode cX8_pushings 110 = .ok (.iload_n 2, 1) := by decide +kernel
theorem dX8_pushings_111 : decode cX8_pushings 111 = .ok (.iload_n 1, 1) := by decide +kernel
theorem dX8_pushings_112 : decode cX8_pushings 112 = .ok (.if_icmp .ge 35, 3) := by decide +kernel
theorem dX8_pushings_115 : decode cX8_pushings 115 = .ok (.aload_n 0, 1) := by decide +kernel
theorem dX8_pushings_116 : decode cX8_pushings 116 = .ok (.iload_n 2, 1) := by decide +kernel
theorem dX8_pushings_117 : decode cX8_pushings 117 = .ok (.invokevirtual 137, 3) := by decide +kernel
theorem dX8_pushings_120 : decode cX8_pushings 120 = .ok (.ifCond .eq 21, 3) := by decide +kernel
theorem dX8_pushings_123 : decode cX8_pushings 123 = .ok (.aload_n 0, 1) := by decide +kernel
theorem dX8_pushings_124 : decode cX8_pushings 124 = .ok (.getfield 31, 3) := by decide +kernel
theorem dX8_pushings_127 : decode cX8_pushings 127 = .ok (.iload_n 2, 1) := by decide +kernel
theorem dX8_pushings_128 : decode cX8_pushings 128 = .ok (.iconst 1, 1) := by decide +kernel
theorem dX8_pushings_129 : decode cX8_pushings 129 = .ok (.iastore, 1) := by decide +kernel
theorem dX8_pushings_130 : decode cX8_pushings 130 = .ok (.aload_n 0, 1) := by decide +kernel
theorem dX8_pushings_131 : decode cX8_pushings 131 = .ok (.invokevirtual 166, 3) := by decide +kernel
theorem dX8_pushings_134 : decode cX8_pushings 134 = .ok (.aload_n 0, 1) := by decide +kernel
theorem dX8_pushings_135 : decode cX8_pushings 135 = .ok (.getfield 31, 3) := by decide +kernel
theorem dX8_pushings_138 : decode cX8_pushings 138 = .ok (.iload_n 2, 1) := by decide +kernel
theorem dX8_pushings_139 : decode cX8_pushings 139 = .ok (.iconst 0, 1) := by decide +kernel
theorem dX8_pushings_140 : decode cX8_pushings 140 = .ok (.iastore, 1) := by decide +kernel
theorem dX8_pushings_141 : decode cX8_pushings 141 = .ok (.iinc 2 1, 3) := by decide +kernel
theorem dX8_pushings_144 : decode cX8_pushings 144 = .ok (.goto (-34), 3) := by decide +kernel
theorem dX8_pushings_147 : decode cX8_pushings 147 = .ok (.aload_n 0, 1) := by decide +kernel
theorem dX8_pushings_148 : decode cX8_pushings 148 = .ok (.invokevirtual 169, 3) := by decide +kernel
theorem dX8_pushings_151 : decode cX8_pushings 151 = .ok (.return_, 1) := by decide +kernel
theorem dX8_weights_0 : decode cX8_weights 0 = .ok (.aload_n 0, 1) := by decide +kernel
theorem dX8_weights_1 : decode cX8_weights 1 = .ok (.aload_n 0, 1) := by decide +kernel
theorem dX8_weights_2 : decode cX8_weights 2 = .ok (.invokevirtual 84, 3) := by decide +kernel
theorem dX8_weights_5 : decode cX8_weights 5 = .ok (.invokevirtual 162, 3) := by decide +kernel
theorem dX8_weights_8 : decode cX8_weights 8 = .ok (.iconst 0, 1) := by decide +kernel
theorem dX8_weights_9 : decode cX8_weights 9 = .ok (.istore_n 1, 1) := by decide +kernel
theorem dX8_weights_10 : decode cX8_weights 10 = .ok (.iload_n 1, 1) := by decide +kernel
theorem dX8_weights_11 : decode cX8_weights 11 = .ok (.aload_n 0, 1) := by decide +kernel
theorem dX8_weights_12 : decode cX8_weights 12 = .ok (.invokevirtual 89, 3) := by decide +kernel
theorem dX8_weights_15 : decode cX8_weights 15 = .ok (.if_icmp .ge 59, 3) := by decide +kernel
theorem dX8_weights_18 : decode cX8_weights 18 = .ok (.aload_n 0, 1) := by decide +kernel
theorem dX8_weights_19 : decode cX8_weights 19 = .ok (.iload_n 1, 1) := by decide +kernel
theorem dX8_weights_20 : decode cX8_weights 20 = .ok (.invokevirtual 137, 3) := by decide +kernel
theorem dX8_weights_23 : decode cX8_weights 23 = .ok (.ifCond .eq 6, 3) := by decide +kernel
theorem dX8_weights_26 : decode cX8_weights 26 = .ok (.goto 42, 3) := by decide +kernel
theorem dX8_weights_29 : decode cX8_weights 29 = .ok (.iconst 0, 1) := by decide +kernel
theorem dX8_weights_30 : decode cX8_weights 30 = .ok (.istore_n 2, 1) := by decide +kernel
theorem dX8_weights_31 : decode cX8_weights 31 = .ok (.iload_n 2, 1) := by decide +kernel
theorem dX8_weights_32 : decode cX8_weights 32 = .ok (.aload_n 0, 1) := by decide +kernel
theorem dX8_weights_33 : decode cX8_weights 33 = .ok (.invokevirtual 84, 3) := by decide +kernel
theorem dX8_weights_36 : decode cX8_weights 36 = .ok (.if_icmp .ge 28, 3) := by decide +kernel
theorem dX8_weights_39 : decode cX8_weights 39 = .ok (.aload_n 0, 1) := by decide +kernel
theorem dX8_weights_40 : decode cX8_weights 40 = .ok (.getfield 31, 3) := by decide +kernel
theorem dX8_weights_43 : decode cX8_weights 43 = .ok (.aload_n 0, 1) := by decide +kernel
theorem dX8_weights_44 : decode cX8_weights 44 = .ok (.invokevirtual 84, 3) := by decide +kernel
theorem dX8_weights_47 : decode cX8_weights 47 = .ok (.iconst 1, 1) := by decide +kernel
theorem dX8_weights_48 : decode cX8_weights 48 = .ok (.isub, 1) := by decide +kernel
theorem dX8_weights_49 : decode cX8_weights 49 = .ok (.iload_n 2, 1) := by decide +kernel
theorem dX8_weights_50 : decode cX8_weights 50 = .ok (.isub, 1) := by decide +kernel
theorem dX8_weights_51 : decode cX8_weights 51 = .ok (.aload_n 0, 1) := by decide +kernel
theorem dX8_weights_52 : decode cX8_weights 52 = .ok (.iload_n 1, 1) := by decide +kernel
theorem dX8_weights_53 : decode cX8_weights 53 = .ok (.iload_n 2, 1) := by decide +kernel
theorem dX8_weights_54 : decode cX8_weights 54 = .ok (.invokevirtual 134, 3) := by decide +kernel
theorem dX8_weights_57 : decode cX8_weights 57 = .ok (.iastore, 1) := by decide +kernel
theorem dX8_weights_58 : decode cX8_weights 58 = .ok (.iinc 2 1, 3) := by decide +kernel
theorem dX8_weights_61 : decode cX8_weights 61 = .ok (.goto (-30), 3) := by decide +kernel
theorem dX8_weights_64 : decode cX8_weights 64 = .ok (.aload_n 0, 1) := by decide +kernel
theorem dX8_weights_65 : decode cX8_weights 65 = .ok (.invokevirtual 166, 3) := by decide +kernel
theorem dX8_weights_68 : decode cX8_weights 68 = .ok (.iinc 1 1, 3) := by decide +kernel
theorem dX8_weights_71 : decode cX8_weights 71 = .ok (.goto (-61), 3) := by decide +kernel
theorem dX8_weights_74 : decode cX8_weights 74 = .ok (.aload_n 0, 1) := by decide +kernel
theorem dX8_weights_75 : decode cX8_weights 75 = .ok (.invokevirtual 169, 3) := by decide +kernel
theorem dX8_weights_78 : decode cX8_weights 78 = .ok (.return_, 1) := by decide +kernel
theorem dX8_tells_0 : decode cX8_tells 0 = .ok (.aload_n 0, 1) := by decide +kernel
theorem dX8_tells_1 : decode cX8_tells 1 = .ok (.iload_n 1, 1) := by decide +kernel
theorem dX8_tells_2 : decode cX8_tells 2 = .ok (.putfield 172, 3) := by decide +kernel
theorem dX8_tells_5 : decode cX8_tells 5 = .ok (.aload_n 0, 1) := by decide +kernel
theorem dX8_tells_6 : decode cX8_tells 6 = .ok (.iload_n 2, 1) := by decide +kernel
theorem dX8_tells_7 : decode cX8_tells 7 = .ok (.putfield 175, 3) := by decide +kernel
theorem dX8_tells_10 : decode cX8_tells 10 = .ok (.aload_n 0, 1) := by decide +kernel
theorem dX8_tells_11 : decode cX8_tells 11 = .ok (.iconst 0, 1) := by decide +kernel
theorem dX8_tells_12 : decode cX8_tells 12 = .ok (.putfield 63, 3) := by decide +kernel
theorem dX8_tells_15 : decode cX8_tells 15 = .ok (.return_, 1) := by decide +kernel
theorem dX8_canBe_0 : decode cX8_canBe 0 = .ok (.aload_n 0, 1) := by decide +kernel
theorem dX8_canBe_1 : decode cX8_canBe 1 = .ok (.invokevirtual 178, 3) := by decide +kernel
theorem dX8_canBe_4 : decode cX8_canBe 4 = .ok (.aload_n 0, 1) := by decide +kernel
theorem dX8_canBe_5 : decode cX8_canBe 5 = .ok (.aload_n 0, 1) := by decide +kernel
theorem dX8_canBe_6 : decode cX8_canBe 6 = .ok (.invokevirtual 89, 3) := by decide +kernel
theorem dX8_canBe_9 : decode cX8_canBe 9 = .ok (.invokevirtual 181, 3) := by decide +kernel
theorem dX8_canBe_12 : decode cX8_canBe 12 = .ok (.iconst 1, 1) := by decide +kernel
theorem dX8_canBe_13 : decode cX8_canBe 13 = .ok (.if_icmp .ne 7, 3) := by decide +kernel
theorem dX8_canBe_16 : decode cX8_canBe 16 = .ok (.iconst 1, 1) := by decide +kernel
theorem dX8_canBe_17 : decode cX8_canBe 17 = .ok (.goto 4, 3) := by decide +kernel
theorem dX8_canBe_20 : decode cX8_canBe 20 = .ok (.iconst 0, 1) := by decide +kernel
theorem dX8_canBe_21 : decode cX8_canBe 21 = .ok (.ireturn, 1) := by decide +kernel
theorem dX8_can_0 : decode cX8_can 0 = .ok (.aload_n 0, 1) := by decide +kernel
theorem dX8_can_1 : decode cX8_can 1 = .ok (.invokevirtual 184, 3) := by decide +kernel
theorem dX8_can_4 : decode cX8_can 4 = .ok (.ifCond .eq 55, 3) := by decide +kernel
theorem dX8_can_7 : decode cX8_can 7 = .ok (.aload_n 0, 1) := by decide +kernel
theorem dX8_can_8 : decode cX8_can 8 = .ok (.aload_n 0, 1) := by decide +kernel
theorem dX8_can_9 : decode cX8_can 9 = .ok (.invokevirtual 89, 3) := by decide +kernel
theorem dX8_can_12 : decode cX8_can 12 = .ok (.iconst 1, 1) := by decide +kernel
theorem dX8_can_13 : decode cX8_can 13 = .ok (.invokevirtual 188, 3) := by decide +kernel
theorem dX8_can_16 : decode cX8_can 16 = .ok (.iconst 0, 1) := by decide +kernel
theorem dX8_can_17 : decode cX8_can 17 = .ok (.istore_n 1, 1) := by decide +kernel
theorem dX8_can_18 : decode cX8_can 18 = .ok (.iload_n 1, 1) := by decide +kernel
theorem dX8_can_19 : decode cX8_can 19 = .ok (.aload_n 0, 1) := by decide +kernel
theorem dX8_can_20 : decode cX8_can 20 = .ok (.invokevirtual 89, 3) := by decide +kernel
theorem dX8_can_23 : decode cX8_can 23 = .ok (.if_icmp .ge 29, 3) := by decide +kernel
theorem dX8_can_26 : decode cX8_can 26 = .ok (.aload_n 0, 1) := by decide +kernel
theorem dX8_can_27 : decode cX8_can 27 = .ok (.getfield 40, 3) := by decide +kernel
theorem dX8_can_30 : decode cX8_can 30 = .ok (.iload_n 1, 1) := by decide +kernel
theorem dX8_can_31 : decode cX8_can 31 = .ok (.aload_n 0, 1) := by decide +kernel
theorem dX8_can_32 : decode cX8_can 32 = .ok (.getfield 28, 3) := by decide +kernel
theorem dX8_can_35 : decode cX8_can 35 = .ok (.bipush 37, 2) := by decide +kernel
theorem dX8_can_37 : decode cX8_can 37 = .ok (.aload_n 0, 1) := by decide +kernel
theorem dX8_can_38 : decode cX8_can 38 = .ok (.invokevirtual 89, 3) := by decide +kernel
theorem dX8_can_41 : decode cX8_can 41 = .ok (.imul, 1) := by decide +kernel
theorem dX8_can_42 : decode cX8_can 42 = .ok (.iload_n 1, 1) := by decide +kernel
theorem dX8_can_43 : decode cX8_can 43 = .ok (.iadd, 1) := by decide +kernel
theorem dX8_can_44 : decode cX8_can 44 = .ok (.iaload, 1) := by decide +kernel
theorem dX8_can_45 : decode cX8_can 45 = .ok (.iastore, 1) := by decide +kernel
theorem dX8_can_46 : decode cX8_can 46 = .ok (.iinc 1 1, 3) := by decide +kernel
theorem dX8_can_49 : decode cX8_can 49 = .ok (.goto (-31), 3) := by decide +kernel
theorem dX8_can_52 : decode cX8_can 52 = .ok (.aload_n 0, 1) := by decide +kernel
theorem dX8_can_53 : decode cX8_can 53 = .ok (.iconst 1, 1) := by decide +kernel
theorem dX8_can_54 : decode cX8_can 54 = .ok (.putfield 63, 3) := by decide +kernel
theorem dX8_can_57 : decode cX8_can 57 = .ok (.iconst 1, 1) := by decide +kernel
theorem dX8_can_58 : decode cX8_can 58 = .ok (.ireturn, 1) := by decide +kernel
theorem dX8_can_59 : decode cX8_can 59 = .ok (.aload_n 0, 1) := by decide +kernel
theorem dX8_can_60 : decode cX8_can 60 = .ok (.invokevirtual 192, 3) := by decide +kernel
theorem dX8_can_63 : decode cX8_can 63 = .ok (.aload_n 0, 1) := by decide +kernel
theorem dX8_can_64 : decode cX8_can 64 = .ok (.invokevirtual 84, 3) := by decide +kernel
theorem dX8_can_67 : decode cX8_can 67 = .ok (.iconst 1, 1) := by decide +kernel
theorem dX8_can_68 : decode cX8_can 68 = .ok (.isub, 1) := by decide +kernel
theorem dX8_can_69 : decode cX8_can 69 = .ok (.istore_n 1, 1) := by decide +kernel
theorem dX8_can_70 : decode cX8_can 70 = .ok (.aload_n 0, 1) := by decide +kernel
theorem dX8_can_71 : decode cX8_can 71 = .ok (.iload_n 1, 1) := by decide +kernel
theorem dX8_can_72 : decode cX8_can 72 = .ok (.invokevirtual 195, 3) := by decide +kernel
theorem dX8_can_75 : decode cX8_can 75 = .ok (.ifCond .eq 9, 3) := by decide +kernel
theorem dX8_can_78 : decode cX8_can 78 = .ok (.iinc 1 (-1), 3) := by decide +kernel
theorem dX8_can_81 : decode cX8_can 81 = .ok (.goto (-11), 3) := by decide +kernel
theorem dX8_can_84 : decode cX8_can 84 = .ok (.aload_n 0, 1) := by decide +kernel
theorem dX8_can_85 : decode cX8_can 85 = .ok (.iload_n 1, 1) := by decide +kernel
theorem dX8_can_86 : decode cX8_can 86 = .ok (.invokevirtual 198, 3) := by decide +kernel
theorem dX8_can_89 : decode cX8_can 89 = .ok (.iconst 0, 1) := by decide +kernel
theorem dX8_can_90 : decode cX8_can 90 = .ok (.ireturn, 1) := by decide +kernel
theorem dX8_isZero_0 : decode cX8_isZero 0 = .ok (.iconst 0, 1) := by decide +kernel
theorem dX8_isZero_1 : decode cX8_isZero 1 = .ok (.istore_n 2, 1) := by decide +kernel
theorem dX8_isZero_2 : decode cX8_isZero 2 = .ok (.iconst 0, 1) := by decide +kernel
theorem dX8_isZero_3 : decode cX8_isZero 3 = .ok (.istore_n 3, 1) := by decide +kernel
theorem dX8_isZero_4 : decode cX8_isZero 4 = .ok (.iload_n 3, 1) := by decide +kernel
theorem dX8_isZero_5 : decode cX8_isZero 5 = .ok (.aload_n 0, 1) := by decide +kernel
theorem dX8_isZero_6 : decode cX8_isZero 6 = .ok (.invokevirtual 84, 3) := by decide +kernel
theorem dX8_isZero_9 : decode cX8_isZero 9 = .ok (.if_icmp .ge 44, 3) := by decide +kernel
theorem dX8_isZero_12 : decode cX8_isZero 12 = .ok (.iload_n 2, 1) := by decide +kernel
theorem dX8_isZero_13 : decode cX8_isZero 13 = .ok (.aload_n 0, 1) := by decide +kernel
theorem dX8_isZero_14 : decode cX8_isZero 14 = .ok (.getfield 28, 3) := by decide +kernel
theorem dX8_isZero_17 : decode cX8_isZero 17 = .ok (.bipush 37, 2) := by decide +kernel
theorem dX8_isZero_19 : decode cX8_isZero 19 = .ok (.iload_n 1, 1) := by decide +kernel
theorem dX8_isZero_20 : decode cX8_isZero 20 = .ok (.imul, 1) := by decide +kernel
theorem dX8_isZero_21 : decode cX8_isZero 21 = .ok (.aload_n 0, 1) := by decide +kernel
theorem dX8_isZero_22 : decode cX8_isZero 22 = .ok (.invokevirtual 84, 3) := by decide +kernel
theorem dX8_isZero_25 : decode cX8_isZero 25 = .ok (.iadd, 1) := by decide +kernel
theorem dX8_isZero_26 : decode cX8_isZero 26 = .ok (.iconst 1, 1) := by decide +kernel
theorem dX8_isZero_27 : decode cX8_isZero 27 = .ok (.isub, 1) := by decide +kernel
theorem dX8_isZero_28 : decode cX8_isZero 28 = .ok (.iload_n 3, 1) := by decide +kernel
theorem dX8_isZero_29 : decode cX8_isZero 29 = .ok (.isub, 1) := by decide +kernel
theorem dX8_isZero_30 : decode cX8_isZero 30 = .ok (.iaload, 1) := by decide +kernel
theorem dX8_isZero_31 : decode cX8_isZero 31 = .ok (.aload_n 0, 1) := by decide +kernel
theorem dX8_isZero_32 : decode cX8_isZero 32 = .ok (.invokevirtual 96, 3) := by decide +kernel
theorem dX8_isZero_35 : decode cX8_isZero 35 = .ok (.irem, 1) := by decide +kernel
theorem dX8_isZero_36 : decode cX8_isZero 36 = .ok (.aload_n 0, 1) := by decide +kernel
theorem dX8_isZero_37 : decode cX8_isZero 37 = .ok (.getfield 9, 3) := by decide +kernel
theorem dX8_isZero_40 : decode cX8_isZero 40 = .ok (.iconst 4, 1) := by decide +kernel
theorem dX8_isZero_41 : decode cX8_isZero 41 = .ok (.iload_n 3, 1) := by decide +kernel
theorem dX8_isZero_42 : decode cX8_isZero 42 = .ok (.iadd, 1) := by decide +kernel
theorem dX8_isZero_43 : decode cX8_isZero 43 = .ok (.iaload, 1) := by decide +kernel
theorem dX8_isZero_44 : decode cX8_isZero 44 = .ok (.imul, 1) := by decide +kernel
theorem dX8_isZero_45 : decode cX8_isZero 45 = .ok (.iadd, 1) := by decide +kernel
theorem dX8_isZero_46 : decode cX8_isZero 46 = .ok (.istore_n 2, 1) := by decide +kernel
theorem dX8_isZero_47 : decode cX8_isZero 47 = .ok (.iinc 3 1, 3) := by decide +kernel
theorem dX8_isZero_50 : decode cX8_isZero 50 = .ok (.goto (-46), 3) := by decide +kernel
theorem dX8_isZero_53 : decode cX8_isZero 53 = .ok (.iload_n 2, 1) := by decide +kernel
theorem dX8_isZero_54 : decode cX8_isZero 54 = .ok (.aload_n 0, 1) := by decide +kernel
theorem dX8_isZero_55 : decode cX8_isZero 55 = .ok (.invokevirtual 96, 3) := by decide +kernel
theorem dX8_isZero_58 : decode cX8_isZero 58 = .ok (.irem, 1) := by decide +kernel
theorem dX8_isZero_59 : decode cX8_isZero 59 = .ok (.ifCond .ne 7, 3) := by decide +kernel
theorem dX8_isZero_62 : decode cX8_isZero 62 = .ok (.iconst 1, 1) := by decide +kernel
theorem dX8_isZero_63 : decode cX8_isZero 63 = .ok (.goto 4, 3) := by decide +kernel
theorem dX8_isZero_66 : decode cX8_isZero 66 = .ok (.iconst 0, 1) := by decide +kernel
theorem dX8_isZero_67 : decode cX8_isZero 67 = .ok (.ireturn, 1) := by decide +kernel
theorem dX8_weigh_0 : decode cX8_weigh 0 = .ok (.aload_n 0, 1) := by decide +kernel
theorem dX8_weigh_1 : decode cX8_weigh 1 = .ok (.aload_n 0, 1) := by decide +kernel
theorem dX8_weigh_2 : decode cX8_weigh 2 = .ok (.invokevirtual 84, 3) := by decide +kernel
theorem dX8_weigh_5 : decode cX8_weigh 5 = .ok (.iconst 0, 1) := by decide +kernel
theorem dX8_weigh_6 : decode cX8_weigh 6 = .ok (.invokevirtual 188, 3) := by decide +kernel
theorem dX8_weigh_9 : decode cX8_weigh 9 = .ok (.iconst 0, 1) := by decide +kernel
theorem dX8_weigh_10 : decode cX8_weigh 10 = .ok (.istore_n 2, 1) := by decide +kernel
theorem dX8_weigh_11 : decode cX8_weigh 11 = .ok (.iload_n 2, 1) := by decide +kernel
theorem dX8_weigh_12 : decode cX8_weigh 12 = .ok (.aload_n 0, 1) := by decide +kernel
theorem dX8_weigh_13 : decode cX8_weigh 13 = .ok (.invokevirtual 84, 3) := by decide +kernel
theorem dX8_weigh_16 : decode cX8_weigh 16 = .ok (.if_icmp .ge 33, 3) := by decide +kernel
theorem dX8_weigh_19 : decode cX8_weigh 19 = .ok (.aload_n 0, 1) := by decide +kernel
theorem dX8_weigh_20 : decode cX8_weigh 20 = .ok (.getfield 40, 3) := by decide +kernel
theorem dX8_weigh_23 : decode cX8_weigh 23 = .ok (.iload_n 2, 1) := by decide +kernel
theorem dX8_weigh_24 : decode cX8_weigh 24 = .ok (.aload_n 0, 1) := by decide +kernel
theorem dX8_weigh_25 : decode cX8_weigh 25 = .ok (.getfield 28, 3) := by decide +kernel
theorem dX8_weigh_28 : decode cX8_weigh 28 = .ok (.bipush 37, 2) := by decide +kernel
theorem dX8_weigh_30 : decode cX8_weigh 30 = .ok (.iload_n 1, 1) := by decide +kernel
theorem dX8_weigh_31 : decode cX8_weigh 31 = .ok (.imul, 1) := by decide +kernel
theorem dX8_weigh_32 : decode cX8_weigh 32 = .ok (.aload_n 0, 1) := by decide +kernel
theorem dX8_weigh_33 : decode cX8_weigh 33 = .ok (.invokevirtual 84, 3) := by decide +kernel
theorem dX8_weigh_36 : decode cX8_weigh 36 = .ok (.iadd, 1) := by decide +kernel
theorem dX8_weigh_37 : decode cX8_weigh 37 = .ok (.iconst 1, 1) := by decide +kernel
theorem dX8_weigh_38 : decode cX8_weigh 38 = .ok (.isub, 1) := by decide +kernel
theorem dX8_weigh_39 : decode cX8_weigh 39 = .ok (.iload_n 2, 1) := by decide +kernel
theorem dX8_weigh_40 : decode cX8_weigh 40 = .ok (.isub, 1) := by decide +kernel
theorem dX8_weigh_41 : decode cX8_weigh 41 = .ok (.iaload, 1) := by decide +kernel
theorem dX8_weigh_42 : decode cX8_weigh 42 = .ok (.iastore, 1) := by decide +kernel
theorem dX8_weigh_43 : decode cX8_weigh 43 = .ok (.iinc 2 1, 3) := by decide +kernel
theorem dX8_weigh_46 : decode cX8_weigh 46 = .ok (.goto (-35), 3) := by decide +kernel
theorem dX8_weigh_49 : decode cX8_weigh 49 = .ok (.return_, 1) := by decide +kernel
theorem dX8_next_0 : decode cX8_next 0 = .ok (.aload_n 0, 1) := by decide +kernel
theorem dX8_next_1 : decode cX8_next 1 = .ok (.getfield 63, 3) := by decide +kernel
theorem dX8_next_4 : decode cX8_next 4 = .ok (.ifCond .ne 5, 3) := by decide +kernel
theorem dX8_next_7 : decode cX8_next 7 = .ok (.iconst (-1), 1) := by decide +kernel
theorem dX8_next_8 : decode cX8_next 8 = .ok (.ireturn, 1) := by decide +kernel
theorem dX8_next_9 : decode cX8_next 9 = .ok (.aload_n 0, 1) := by decide +kernel
theorem dX8_next_10 : decode cX8_next 10 = .ok (.invokevirtual 178, 3) := by decide +kernel
theorem dX8_next_13 : decode cX8_next 13 = .ok (.aload_n 0, 1) := by decide +kernel
theorem dX8_next_14 : decode cX8_next 14 = .ok (.aload_n 0, 1) := by decide +kernel
theorem dX8_next_15 : decode cX8_next 15 = .ok (.invokevirtual 89, 3) := by decide +kernel
theorem dX8_next_18 : decode cX8_next 18 = .ok (.invokevirtual 201, 3) := by decide +kernel
theorem dX8_next_21 : decode cX8_next 21 = .ok (.ifCond .eq 7, 3) := by decide +kernel
theorem dX8_next_24 : decode cX8_next 24 = .ok (.iconst 1, 1) := by decide +kernel
theorem dX8_next_25 : decode cX8_next 25 = .ok (.goto 4, 3) := by decide +kernel
theorem dX8_next_28 : decode cX8_next 28 = .ok (.iconst 0, 1) := by decide +kernel
theorem dX8_next_29 : decode cX8_next 29 = .ok (.ireturn, 1) := by decide +kernel
theorem dX8_follows_0 : decode cX8_follows 0 = .ok (.iconst 0, 1) := by decide +kernel
theorem dX8_follows_1 : decode cX8_follows 1 = .ok (.istore_n 2, 1) := by decide +kernel
theorem dX8_follows_2 : decode cX8_follows 2 = .ok (.iload_n 2, 1) := by decide +kernel
theorem dX8_follows_3 : decode cX8_follows 3 = .ok (.iload_n 1, 1) := by decide +kernel
theorem dX8_follows_4 : decode cX8_follows 4 = .ok (.if_icmp .ge 28, 3) := by decide +kernel
theorem dX8_follows_7 : decode cX8_follows 7 = .ok (.aload_n 0, 1) := by decide +kernel
theorem dX8_follows_8 : decode cX8_follows 8 = .ok (.getfield 40, 3) := by decide +kernel
theorem dX8_follows_11 : decode cX8_follows 11 = .ok (.iload_n 2, 1) := by decide +kernel
theorem dX8_follows_12 : decode cX8_follows 12 = .ok (.iaload, 1) := by decide +kernel
theorem dX8_follows_13 : decode cX8_follows 13 = .ok (.aload_n 0, 1) := by decide +kernel
theorem dX8_follows_14 : decode cX8_follows 14 = .ok (.iload_n 2, 1) := by decide +kernel
theorem dX8_follows_15 : decode cX8_follows 15 = .ok (.invokevirtual 181, 3) := by decide +kernel
theorem dX8_follows_18 : decode cX8_follows 18 = .ok (.iadd, 1) := by decide +kernel
theorem dX8_follows_19 : decode cX8_follows 19 = .ok (.aload_n 0, 1) := by decide +kernel
theorem dX8_follows_20 : decode cX8_follows 20 = .ok (.invokevirtual 96, 3) := by decide +kernel
theorem dX8_follows_23 : decode cX8_follows 23 = .ok (.if_icmp .lt 9, 3) := by decide +kernel
theorem dX8_follows_26 : decode cX8_follows 26 = .ok (.iinc 2 1, 3) := by decide +kernel
theorem dX8_follows_29 : decode cX8_follows 29 = .ok (.goto (-27), 3) := by decide +kernel
theorem dX8_follows_32 : decode cX8_follows 32 = .ok (.iload_n 2, 1) := by decide +kernel
theorem dX8_follows_33 : decode cX8_follows 33 = .ok (.iload_n 1, 1) := by decide +kernel
theorem dX8_follows_34 : decode cX8_follows 34 = .ok (.if_icmp .ne 5, 3) := by decide +kernel
theorem dX8_follows_37 : decode cX8_follows 37 = .ok (.iconst 0, 1) := by decide +kernel
theorem dX8_follows_38 : decode cX8_follows 38 = .ok (.ireturn, 1) := by decide +kernel
theorem dX8_follows_39 : decode cX8_follows 39 = .ok (.iconst 0, 1) := by decide +kernel
theorem dX8_follows_40 : decode cX8_follows 40 = .ok (.istore_n 3, 1) := by decide +kernel
theorem dX8_follows_41 : decode cX8_follows 41 = .ok (.iload_n 3, 1) := by decide +kernel
theorem dX8_follows_42 : decode cX8_follows 42 = .ok (.iload_n 2, 1) := by decide +kernel
theorem dX8_follows_43 : decode cX8_follows 43 = .ok (.if_icmp .gt 38, 3) := by decide +kernel
theorem dX8_follows_46 : decode cX8_follows 46 = .ok (.aload_n 0, 1) := by decide +kernel
theorem dX8_follows_47 : decode cX8_follows 47 = .ok (.getfield 40, 3) := by decide +kernel
theorem dX8_follows_50 : decode cX8_follows 50 = .ok (.iload_n 3, 1) := by decide +kernel
theorem dX8_follows_51 : decode cX8_follows 51 = .ok (.aload_n 0, 1) := by decide +kernel
theorem dX8_follows_52 : decode cX8_follows 52 = .ok (.getfield 40, 3) := by decide +kernel
theorem dX8_follows_55 : decode cX8_follows 55 = .ok (.iload_n 3, 1) := by decide +kernel
theorem dX8_follows_56 : decode cX8_follows 56 = .ok (.iaload, 1) := by decide +kernel
theorem dX8_follows_57 : decode cX8_follows 57 = .ok (.aload_n 0, 1) := by decide +kernel
theorem dX8_follows_58 : decode cX8_follows 58 = .ok (.getfield 28, 3) := by decide +kernel
theorem dX8_follows_61 : decode cX8_follows 61 = .ok (.bipush 37, 2) := by decide +kernel
theorem dX8_follows_63 : decode cX8_follows 63 = .ok (.iload_n 2, 1) := by decide +kernel
theorem dX8_follows_64 : decode cX8_follows 64 = .ok (.imul, 1) := by decide +kernel
theorem dX8_follows_65 : decode cX8_follows 65 = .ok (.iload_n 3, 1) := by decide +kernel
theorem dX8_follows_66 : decode cX8_follows 66 = .ok (.iadd, 1) := by decide +kernel
theorem dX8_follows_67 : decode cX8_follows 67 = .ok (.iaload, 1) := by decide +kernel
theorem dX8_follows_68 : decode cX8_follows 68 = .ok (.iadd, 1) := by decide +kernel
theorem dX8_follows_69 : decode cX8_follows 69 = .ok (.aload_n 0, 1) := by decide +kernel
theorem dX8_follows_70 : decode cX8_follows 70 = .ok (.invokevirtual 96, 3) := by decide +kernel
theorem dX8_follows_73 : decode cX8_follows 73 = .ok (.irem, 1) := by decide +kernel
theorem dX8_follows_74 : decode cX8_follows 74 = .ok (.iastore, 1) := by decide +kernel
theorem dX8_follows_75 : decode cX8_follows 75 = .ok (.iinc 3 1, 3) := by decide +kernel
theorem dX8_follows_78 : decode cX8_follows 78 = .ok (.goto (-37), 3) := by decide +kernel
theorem dX8_follows_81 : decode cX8_follows 81 = .ok (.aload_n 0, 1) := by decide +kernel
theorem dX8_follows_82 : decode cX8_follows 82 = .ok (.iload_n 2, 1) := by decide +kernel
theorem dX8_follows_83 : decode cX8_follows 83 = .ok (.invokevirtual 204, 3) := by decide +kernel
theorem dX8_follows_86 : decode cX8_follows 86 = .ok (.iconst 1, 1) := by decide +kernel
theorem dX8_follows_87 : decode cX8_follows 87 = .ok (.ireturn, 1) := by decide +kernel
theorem dX8_lower_0 : decode cX8_lower 0 = .ok (.iload_n 1, 1) := by decide +kernel
theorem dX8_lower_1 : decode cX8_lower 1 = .ok (.iconst 1, 1) := by decide +kernel
theorem dX8_lower_2 : decode cX8_lower 2 = .ok (.isub, 1) := by decide +kernel
theorem dX8_lower_3 : decode cX8_lower 3 = .ok (.istore_n 2, 1) := by decide +kernel
theorem dX8_lower_4 : decode cX8_lower 4 = .ok (.iload_n 2, 1) := by decide +kernel
theorem dX8_lower_5 : decode cX8_lower 5 = .ok (.ifCond .lt 77, 3) := by decide +kernel
theorem dX8_lower_8 : decode cX8_lower 8 = .ok (.aload_n 0, 1) := by decide +kernel
theorem dX8_lower_9 : decode cX8_lower 9 = .ok (.getfield 40, 3) := by decide +kernel
theorem dX8_lower_12 : decode cX8_lower 12 = .ok (.iload_n 2, 1) := by decide +kernel
theorem dX8_lower_13 : decode cX8_lower 13 = .ok (.iaload, 1) := by decide +kernel
theorem dX8_lower_14 : decode cX8_lower 14 = .ok (.aload_n 0, 1) := by decide +kernel
theorem dX8_lower_15 : decode cX8_lower 15 = .ok (.iload_n 2, 1) := by decide +kernel
theorem dX8_lower_16 : decode cX8_lower 16 = .ok (.invokevirtual 181, 3) := by decide +kernel
theorem dX8_lower_19 : decode cX8_lower 19 = .ok (.idiv, 1) := by decide +kernel
theorem dX8_lower_20 : decode cX8_lower 20 = .ok (.istore_n 3, 1) := by decide +kernel
theorem dX8_lower_21 : decode cX8_lower 21 = .ok (.iconst 0, 1) := by decide +kernel
theorem dX8_lower_22 : decode cX8_lower 22 = .ok (.istore 4, 2) := by decide +kernel
theorem dX8_lower_24 : decode cX8_lower 24 = .ok (.iload 4, 2) := by decide +kernel
theorem dX8_lower_26 : decode cX8_lower 26 = .ok (.iload_n 2, 1) := by decide +kernel
theorem dX8_lower_27 : decode cX8_lower 27 = .ok (.if_icmp .gt 49, 3) := by decide +kernel
theorem dX8_lower_30 : decode cX8_lower 30 = .ok (.iload_n 3, 1) := by decide +kernel
theorem dX8_lower_31 : decode cX8_lower 31 = .ok (.ifCond .eq 45, 3) := by decide +kernel
theorem dX8_lower_34 : decode cX8_lower 34 = .ok (.aload_n 0, 1) := by decide +kernel
theorem dX8_lower_35 : decode cX8_lower 35 = .ok (.getfield 40, 3) := by decide +kernel
theorem dX8_lower_38 : decode cX8_lower 38 = .ok (.iload 4, 2) := by decide +kernel
theorem dX8_lower_40 : decode cX8_lower 40 = .ok (.aload_n 0, 1) := by decide +kernel
theorem dX8_lower_41 : decode cX8_lower 41 = .ok (.getfield 40, 3) := by decide +kernel
theorem dX8_lower_44 : decode cX8_lower 44 = .ok (.iload 4, 2) := by decide +kernel
theorem dX8_lower_46 : decode cX8_lower 46 = .ok (.iaload, 1) := by decide +kernel
theorem dX8_lower_47 : decode cX8_lower 47 = .ok (.iload_n 3, 1) := by decide +kernel
theorem dX8_lower_48 : decode cX8_lower 48 = .ok (.aload_n 0, 1) := by decide +kernel
theorem dX8_lower_49 : decode cX8_lower 49 = .ok (.getfield 28, 3) := by decide +kernel
theorem dX8_lower_52 : decode cX8_lower 52 = .ok (.bipush 37, 2) := by decide +kernel
theorem dX8_lower_54 : decode cX8_lower 54 = .ok (.iload_n 2, 1) := by decide +kernel
theorem dX8_lower_55 : decode cX8_lower 55 = .ok (.imul, 1) := by decide +kernel
theorem dX8_lower_56 : decode cX8_lower 56 = .ok (.iload 4, 2) := by decide +kernel
theorem dX8_lower_58 : decode cX8_lower 58 = .ok (.iadd, 1) := by decide +kernel
theorem dX8_lower_59 : decode cX8_lower 59 = .ok (.iaload, 1) := by decide +kernel
theorem dX8_lower_60 : decode cX8_lower 60 = .ok (.imul, 1) := by decide +kernel
theorem dX8_lower_61 : decode cX8_lower 61 = .ok (.isub, 1) := by decide +kernel
theorem dX8_lower_62 : decode cX8_lower 62 = .ok (.aload_n 0, 1) := by decide +kernel
theorem dX8_lower_63 : decode cX8_lower 63 = .ok (.invokevirtual 96, 3) := by decide +kernel
theorem dX8_lower_66 : decode cX8_lower 66 = .ok (.invokestatic 160, 3) := by decide +kernel
theorem dX8_lower_69 : decode cX8_lower 69 = .ok (.iastore, 1) := by decide +kernel
theorem dX8_lower_70 : decode cX8_lower 70 = .ok (.iinc 4 1, 3) := by decide +kernel
theorem dX8_lower_73 : decode cX8_lower 73 = .ok (.goto (-49), 3) := by decide +kernel
theorem dX8_lower_76 : decode cX8_lower 76 = .ok (.iinc 2 (-1), 3) := by decide +kernel
theorem dX8_lower_79 : decode cX8_lower 79 = .ok (.goto (-75), 3) := by decide +kernel
theorem dX8_lower_82 : decode cX8_lower 82 = .ok (.return_, 1) := by decide +kernel
theorem dX8_row_0 : decode cX8_row 0 = .ok (.iload_n 1, 1) := by decide +kernel
theorem dX8_row_1 : decode cX8_row 1 = .ok (.i2l, 1) := by decide +kernel
theorem dX8_row_2 : decode cX8_row 2 = .ok (.lconst 0, 1) := by decide +kernel
theorem dX8_row_3 : decode cX8_row 3 = .ok (.aload_n 0, 1) := by decide +kernel
theorem dX8_row_4 : decode cX8_row 4 = .ok (.getfield 172, 3) := by decide +kernel
theorem dX8_row_7 : decode cX8_row 7 = .ok (.iconst 1, 1) := by decide +kernel
theorem dX8_row_8 : decode cX8_row 8 = .ok (.isub, 1) := by decide +kernel
theorem dX8_row_9 : decode cX8_row 9 = .ok (.i2l, 1) := by decide +kernel
theorem dX8_row_10 : decode cX8_row 10 = .ok (.invokestatic 69, 3) := by decide +kernel
theorem dX8_row_13 : decode cX8_row 13 = .ok (.ifCond .eq 12, 3) := by decide +kernel
theorem dX8_row_16 : decode cX8_row 16 = .ok (.aload_n 0, 1) := by decide +kernel
theorem dX8_row_17 : decode cX8_row 17 = .ok (.getfield 40, 3) := by decide +kernel
theorem dX8_row_20 : decode cX8_row 20 = .ok (.iload_n 1, 1) := by decide +kernel
theorem dX8_row_21 : decode cX8_row 21 = .ok (.iaload, 1) := by decide +kernel
theorem dX8_row_22 : decode cX8_row 22 = .ok (.goto 4, 3) := by decide +kernel
theorem dX8_row_25 : decode cX8_row 25 = .ok (.iconst (-1), 1) := by decide +kernel
theorem dX8_row_26 : decode cX8_row 26 = .ok (.ireturn, 1) := by decide +kernel
theorem dX8_often_0 : decode cX8_often 0 = .ok (.iconst 0, 1) := by decide +kernel
theorem dX8_often_1 : decode cX8_often 1 = .ok (.istore_n 2, 1) := by decide +kernel
theorem dX8_often_2 : decode cX8_often 2 = .ok (.iload_n 0, 1) := by decide +kernel
theorem dX8_often_3 : decode cX8_often 3 = .ok (.istore_n 3, 1) := by decide +kernel
theorem dX8_often_4 : decode cX8_often 4 = .ok (.iload_n 3, 1) := by decide +kernel
theorem dX8_often_5 : decode cX8_often 5 = .ok (.iload_n 1, 1) := by decide +kernel
theorem dX8_often_6 : decode cX8_often 6 = .ok (.irem, 1) := by decide +kernel
theorem dX8_often_7 : decode cX8_often 7 = .ok (.ifCond .ne 13, 3) := by decide +kernel
theorem dX8_often_10 : decode cX8_often 10 = .ok (.iload_n 3, 1) := by decide +kernel
theorem dX8_often_11 : decode cX8_often 11 = .ok (.iload_n 1, 1) := by decide +kernel
theorem dX8_often_12 : decode cX8_often 12 = .ok (.idiv, 1) := by decide +kernel
theorem dX8_often_13 : decode cX8_often 13 = .ok (.istore_n 3, 1) := by decide +kernel
theorem dX8_often_14 : decode cX8_often 14 = .ok (.iinc 2 1, 3) := by decide +kernel
theorem dX8_often_17 : decode cX8_often 17 = .ok (.goto (-13), 3) := by decide +kernel
theorem dX8_often_20 : decode cX8_often 20 = .ok (.iload_n 2, 1) := by decide +kernel
theorem dX8_often_21 : decode cX8_often 21 = .ok (.ireturn, 1) := by decide +kernel
theorem dX8_free_0 : decode cX8_free 0 = .ok (.iconst 0, 1) := by decide +kernel
theorem dX8_free_1 : decode cX8_free 1 = .ok (.istore_n 1, 1) := by decide +kernel
theorem dX8_free_2 : decode cX8_free 2 = .ok (.iconst 0, 1) := by decide +kernel
theorem dX8_free_3 : decode cX8_free 3 = .ok (.istore_n 2, 1) := by decide +kernel
theorem dX8_free_4 : decode cX8_free 4 = .ok (.iload_n 2, 1) := by decide +kernel
theorem dX8_free_5 : decode cX8_free 5 = .ok (.aload_n 0, 1) := by decide +kernel
theorem dX8_free_6 : decode cX8_free 6 = .ok (.invokevirtual 89, 3) := by decide +kernel
theorem dX8_free_9 : decode cX8_free 9 = .ok (.if_icmp .ge 25, 3) := by decide +kernel
theorem dX8_free_12 : decode cX8_free 12 = .ok (.iload_n 1, 1) := by decide +kernel
theorem dX8_free_13 : decode cX8_free 13 = .ok (.aload_n 0, 1) := by decide +kernel
theorem dX8_free_14 : decode cX8_free 14 = .ok (.iload_n 2, 1) := by decide +kernel
theorem dX8_free_15 : decode cX8_free 15 = .ok (.invokevirtual 137, 3) := by decide +kernel
theorem dX8_free_18 : decode cX8_free 18 = .ok (.ifCond .eq 7, 3) := by decide +kernel
theorem dX8_free_21 : decode cX8_free 21 = .ok (.iconst 0, 1) := by decide +kernel
theorem dX8_free_22 : decode cX8_free 22 = .ok (.goto 4, 3) := by decide +kernel
theorem dX8_free_25 : decode cX8_free 25 = .ok (.iconst 1, 1) := by decide +kernel
theorem dX8_free_26 : decode cX8_free 26 = .ok (.iadd, 1) := by decide +kernel
theorem dX8_free_27 : decode cX8_free 27 = .ok (.istore_n 1, 1) := by decide +kernel
theorem dX8_free_28 : decode cX8_free 28 = .ok (.iinc 2 1, 3) := by decide +kernel
theorem dX8_free_31 : decode cX8_free 31 = .ok (.goto (-27), 3) := by decide +kernel
theorem dX8_free_34 : decode cX8_free 34 = .ok (.iload_n 1, 1) := by decide +kernel
theorem dX8_free_35 : decode cX8_free 35 = .ok (.ireturn, 1) := by decide +kernel
theorem dX8_left_0 : decode cX8_left 0 = .ok (.iconst 0, 1) := by decide +kernel
theorem dX8_left_1 : decode cX8_left 1 = .ok (.istore_n 3, 1) := by decide +kernel
theorem dX8_left_2 : decode cX8_left 2 = .ok (.iconst 0, 1) := by decide +kernel
theorem dX8_left_3 : decode cX8_left 3 = .ok (.istore 4, 2) := by decide +kernel
theorem dX8_left_5 : decode cX8_left 5 = .ok (.iload 4, 2) := by decide +kernel
theorem dX8_left_7 : decode cX8_left 7 = .ok (.iload_n 1, 1) := by decide +kernel
theorem dX8_left_8 : decode cX8_left 8 = .ok (.if_icmp .ge 27, 3) := by decide +kernel
theorem dX8_left_11 : decode cX8_left 11 = .ok (.iload_n 3, 1) := by decide +kernel
theorem dX8_left_12 : decode cX8_left 12 = .ok (.aload_n 0, 1) := by decide +kernel
theorem dX8_left_13 : decode cX8_left 13 = .ok (.invokevirtual 96, 3) := by decide +kernel
theorem dX8_left_16 : decode cX8_left 16 = .ok (.aload_n 0, 1) := by decide +kernel
theorem dX8_left_17 : decode cX8_left 17 = .ok (.iload 4, 2) := by decide +kernel
theorem dX8_left_19 : decode cX8_left 19 = .ok (.invokevirtual 181, 3) := by decide +kernel
theorem dX8_left_22 : decode cX8_left 22 = .ok (.idiv, 1) := by decide +kernel
theorem dX8_left_23 : decode cX8_left 23 = .ok (.iload_n 2, 1) := by decide +kernel
theorem dX8_left_24 : decode cX8_left 24 = .ok (.invokestatic 207, 3) := by decide +kernel
theorem dX8_left_27 : decode cX8_left 27 = .ok (.iadd, 1) := by decide +kernel
theorem dX8_left_28 : decode cX8_left 28 = .ok (.istore_n 3, 1) := by decide +kernel
theorem dX8_left_29 : decode cX8_left 29 = .ok (.iinc 4 1, 3) := by decide +kernel
theorem dX8_left_32 : decode cX8_left 32 = .ok (.goto (-27), 3) := by decide +kernel
theorem dX8_left_35 : decode cX8_left 35 = .ok (.iload_n 3, 1) := by decide +kernel
theorem dX8_left_36 : decode cX8_left 36 = .ok (.ireturn, 1) := by decide +kernel
theorem dX8_primes_0 : decode cX8_primes 0 = .ok (.iload_n 2, 1) := by decide +kernel
theorem dX8_primes_1 : decode cX8_primes 1 = .ok (.iconst 2, 1) := by decide +kernel
theorem dX8_primes_2 : decode cX8_primes 2 = .ok (.if_icmp .eq 25, 3) := by decide +kernel
theorem dX8_primes_5 : decode cX8_primes 5 = .ok (.iload_n 2, 1) := by decide +kernel
theorem dX8_primes_6 : decode cX8_primes 6 = .ok (.iconst 3, 1) := by decide +kernel
theorem dX8_primes_7 : decode cX8_primes 7 = .ok (.if_icmp .eq 20, 3) := by decide +kernel
theorem dX8_primes_10 : decode cX8_primes 10 = .ok (.iload_n 2, 1) := by decide +kernel
theorem dX8_primes_11 : decode cX8_primes 11 = .ok (.iconst 5, 1) := by decide +kernel
theorem dX8_primes_12 : decode cX8_primes 12 = .ok (.if_icmp .eq 15, 3) := by decide +kernel
theorem dX8_primes_15 : decode cX8_primes 15 = .ok (.iload_n 2, 1) := by decide +kernel
theorem dX8_primes_16 : decode cX8_primes 16 = .ok (.bipush 7, 2) := by decide +kernel
theorem dX8_primes_18 : decode cX8_primes 18 = .ok (.if_icmp .eq 9, 3) := by decide +kernel
theorem dX8_primes_21 : decode cX8_primes 21 = .ok (.iload_n 2, 1) := by decide +kernel
theorem dX8_primes_22 : decode cX8_primes 22 = .ok (.bipush 11, 2) := by decide +kernel
theorem dX8_primes_24 : decode cX8_primes 24 = .ok (.if_icmp .ne 7, 3) := by decide +kernel
theorem dX8_primes_27 : decode cX8_primes 27 = .ok (.iconst 1, 1) := by decide +kernel
theorem dX8_primes_28 : decode cX8_primes 28 = .ok (.goto 4, 3) := by decide +kernel
theorem dX8_primes_31 : decode cX8_primes 31 = .ok (.iconst 0, 1) := by decide +kernel
theorem dX8_primes_32 : decode cX8_primes 32 = .ok (.istore_n 3, 1) := by decide +kernel
theorem dX8_primes_33 : decode cX8_primes 33 = .ok (.iload_n 3, 1) := by decide +kernel
theorem dX8_primes_34 : decode cX8_primes 34 = .ok (.ifCond .eq 15, 3) := by decide +kernel
theorem dX8_primes_37 : decode cX8_primes 37 = .ok (.iload_n 1, 1) := by decide +kernel
theorem dX8_primes_38 : decode cX8_primes 38 = .ok (.i2l, 1) := by decide +kernel
theorem dX8_primes_39 : decode cX8_primes 39 = .ok (.lconst 0, 1) := by decide +kernel
theorem dX8_primes_40 : decode cX8_primes 40 = .ok (.ldc2_w 107, 3) := by decide +kernel
theorem dX8_primes_43 : decode cX8_primes 43 = .ok (.invokestatic 69, 3) := by decide +kernel
theorem dX8_primes_46 : decode cX8_primes 46 = .ok (.ifCond .ne 5, 3) := by decide +kernel
theorem dX8_primes_49 : decode cX8_primes 49 = .ok (.iconst (-1), 1) := by decide +kernel
theorem dX8_primes_50 : decode cX8_primes 50 = .ok (.ireturn, 1) := by decide +kernel
theorem dX8_primes_51 : decode cX8_primes 51 = .ok (.iload_n 1, 1) := by decide +kernel
theorem dX8_primes_52 : decode cX8_primes 52 = .ok (.iconst 3, 1) := by decide +kernel
theorem dX8_primes_53 : decode cX8_primes 53 = .ok (.if_icmp .ne 17, 3) := by decide +kernel
theorem dX8_primes_56 : decode cX8_primes 56 = .ok (.aload_n 0, 1) := by decide +kernel
theorem dX8_primes_57 : decode cX8_primes 57 = .ok (.invokevirtual 192, 3) := by decide +kernel
theorem dX8_primes_60 : decode cX8_primes 60 = .ok (.aload_n 0, 1) := by decide +kernel
theorem dX8_primes_61 : decode cX8_primes 61 = .ok (.aload_n 0, 1) := by decide +kernel
theorem dX8_primes_62 : decode cX8_primes 62 = .ok (.invokevirtual 84, 3) := by decide +kernel
theorem dX8_primes_65 : decode cX8_primes 65 = .ok (.iload_n 2, 1) := by decide +kernel
theorem dX8_primes_66 : decode cX8_primes 66 = .ok (.invokevirtual 210, 3) := by decide +kernel
theorem dX8_primes_69 : decode cX8_primes 69 = .ok (.ireturn, 1) := by decide +kernel
theorem dX8_primes_70 : decode cX8_primes 70 = .ok (.aload_n 0, 1) := by decide +kernel
theorem dX8_primes_71 : decode cX8_primes 71 = .ok (.invokevirtual 178, 3) := by decide +kernel
theorem dX8_primes_74 : decode cX8_primes 74 = .ok (.aload_n 0, 1) := by decide +kernel
theorem dX8_primes_75 : decode cX8_primes 75 = .ok (.aload_n 0, 1) := by decide +kernel
theorem dX8_primes_76 : decode cX8_primes 76 = .ok (.invokevirtual 89, 3) := by decide +kernel
theorem dX8_primes_79 : decode cX8_primes 79 = .ok (.iload_n 2, 1) := by decide +kernel
theorem dX8_primes_80 : decode cX8_primes 80 = .ok (.invokevirtual 210, 3) := by decide +kernel
theorem dX8_primes_83 : decode cX8_primes 83 = .ok (.istore 4, 2) := by decide +kernel
theorem dX8_primes_85 : decode cX8_primes 85 = .ok (.aload_n 0, 1) := by decide +kernel
theorem dX8_primes_86 : decode cX8_primes 86 = .ok (.invokevirtual 213, 3) := by decide +kernel
theorem dX8_primes_89 : decode cX8_primes 89 = .ok (.aload_n 0, 1) := by decide +kernel
theorem dX8_primes_90 : decode cX8_primes 90 = .ok (.invokevirtual 96, 3) := by decide +kernel
theorem dX8_primes_93 : decode cX8_primes 93 = .ok (.iload_n 2, 1) := by decide +kernel
theorem dX8_primes_94 : decode cX8_primes 94 = .ok (.invokestatic 207, 3) := by decide +kernel
theorem dX8_primes_97 : decode cX8_primes 97 = .ok (.imul, 1) := by decide +kernel
theorem dX8_primes_98 : decode cX8_primes 98 = .ok (.istore 5, 2) := by decide +kernel
theorem dX8_primes_100 : decode cX8_primes 100 = .ok (.iload_n 1, 1) := by decide +kernel
theorem dX8_primes_101 : decode cX8_primes 101 = .ok (.ifCond .ne 11, 3) := by decide +kernel
theorem dX8_primes_104 : decode cX8_primes 104 = .ok (.iload 5, 2) := by decide +kernel
theorem dX8_primes_106 : decode cX8_primes 106 = .ok (.iload 4, 2) := by decide +kernel
theorem dX8_primes_108 : decode cX8_primes 108 = .ok (.isub, 1) := by decide +kernel
theorem dX8_primes_109 : decode cX8_primes 109 = .ok (.goto 15, 3) := by decide +kernel
theorem dX8_primes_112 : decode cX8_primes 112 = .ok (.iload_n 1, 1) := by decide +kernel
theorem dX8_primes_113 : decode cX8_primes 113 = .ok (.iconst 1, 1) := by decide +kernel
theorem dX8_primes_114 : decode cX8_primes 114 = .ok (.if_icmp .ne 8, 3) := by decide +kernel
theorem dX8_primes_117 : decode cX8_primes 117 = .ok (.iload 4, 2) := by decide +kernel
theorem dX8_primes_119 : decode cX8_primes 119 = .ok (.goto 5, 3) := by decide +kernel
theorem dX8_primes_122 : decode cX8_primes 122 = .ok (.iload 5, 2) := by decide +kernel
theorem dX8_primes_124 : decode cX8_primes 124 = .ok (.ireturn, 1) := by decide +kernel
theorem dX8_base_0 : decode cX8_base 0 = .ok (.iload_n 1, 1) := by decide +kernel
theorem dX8_base_1 : decode cX8_base 1 = .ok (.i2l, 1) := by decide +kernel
theorem dX8_base_2 : decode cX8_base 2 = .ok (.lconst 0, 1) := by decide +kernel
theorem dX8_base_3 : decode cX8_base 3 = .ok (.lconst 1, 1) := by decide +kernel
theorem dX8_base_4 : decode cX8_base 4 = .ok (.invokestatic 69, 3) := by decide +kernel
theorem dX8_base_7 : decode cX8_base 7 = .ok (.ifCond .ne 5, 3) := by decide +kernel
theorem dX8_base_10 : decode cX8_base 10 = .ok (.iconst (-1), 1) := by decide +kernel
theorem dX8_base_11 : decode cX8_base 11 = .ok (.ireturn, 1) := by decide +kernel
theorem dX8_base_12 : decode cX8_base 12 = .ok (.iload_n 1, 1) := by decide +kernel
theorem dX8_base_13 : decode cX8_base 13 = .ok (.ifCond .ne 10, 3) := by decide +kernel
theorem dX8_base_16 : decode cX8_base 16 = .ok (.aload_n 0, 1) := by decide +kernel
theorem dX8_base_17 : decode cX8_base 17 = .ok (.invokevirtual 89, 3) := by decide +kernel
theorem dX8_base_20 : decode cX8_base 20 = .ok (.goto 7, 3) := by decide +kernel
theorem dX8_base_23 : decode cX8_base 23 = .ok (.aload_n 0, 1) := by decide +kernel
theorem dX8_base_24 : decode cX8_base 24 = .ok (.invokevirtual 84, 3) := by decide +kernel
theorem dX8_base_27 : decode cX8_base 27 = .ok (.istore_n 2, 1) := by decide +kernel
theorem dX8_base_28 : decode cX8_base 28 = .ok (.iload_n 1, 1) := by decide +kernel
theorem dX8_base_29 : decode cX8_base 29 = .ok (.ifCond .ne 10, 3) := by decide +kernel
theorem dX8_base_32 : decode cX8_base 32 = .ok (.aload_n 0, 1) := by decide +kernel
theorem dX8_base_33 : decode cX8_base 33 = .ok (.invokevirtual 178, 3) := by decide +kernel
theorem dX8_base_36 : decode cX8_base 36 = .ok (.goto 7, 3) := by decide +kernel
theorem dX8_base_39 : decode cX8_base 39 = .ok (.aload_n 0, 1) := by decide +kernel
theorem dX8_base_40 : decode cX8_base 40 = .ok (.invokevirtual 192, 3) := by decide +kernel
theorem dX8_base_43 : decode cX8_base 43 = .ok (.iconst 0, 1) := by decide +kernel
theorem dX8_base_44 : decode cX8_base 44 = .ok (.istore_n 3, 1) := by decide +kernel
theorem dX8_base_45 : decode cX8_base 45 = .ok (.iconst 0, 1) := by decide +kernel
theorem dX8_base_46 : decode cX8_base 46 = .ok (.istore 4, 2) := by decide +kernel
theorem dX8_base_48 : decode cX8_base 48 = .ok (.iload 4, 2) := by decide +kernel
theorem dX8_base_50 : decode cX8_base 50 = .ok (.iload_n 2, 1) := by decide +kernel
theorem dX8_base_51 : decode cX8_base 51 = .ok (.if_icmp .ge 30, 3) := by decide +kernel
theorem dX8_base_54 : decode cX8_base 54 = .ok (.iload_n 3, 1) := by decide +kernel
theorem dX8_base_55 : decode cX8_base 55 = .ok (.aload_n 0, 1) := by decide +kernel
theorem dX8_base_56 : decode cX8_base 56 = .ok (.iload 4, 2) := by decide +kernel
theorem dX8_base_58 : decode cX8_base 58 = .ok (.invokevirtual 181, 3) := by decide +kernel
theorem dX8_base_61 : decode cX8_base 61 = .ok (.aload_n 0, 1) := by decide +kernel
theorem dX8_base_62 : decode cX8_base 62 = .ok (.invokevirtual 96, 3) := by decide +kernel
theorem dX8_base_65 : decode cX8_base 65 = .ok (.if_icmp .ge 7, 3) := by decide +kernel
theorem dX8_base_68 : decode cX8_base 68 = .ok (.iconst 1, 1) := by decide +kernel
theorem dX8_base_69 : decode cX8_base 69 = .ok (.goto 4, 3) := by decide +kernel
theorem dX8_base_72 : decode cX8_base 72 = .ok (.iconst 0, 1) := by decide +kernel
theorem dX8_base_73 : decode cX8_base 73 = .ok (.iadd, 1) := by decide +kernel
theorem dX8_base_74 : decode cX8_base 74 = .ok (.istore_n 3, 1) := by decide +kernel
theorem dX8_base_75 : decode cX8_base 75 = .ok (.iinc 4 1, 3) := by decide +kernel
theorem dX8_base_78 : decode cX8_base 78 = .ok (.goto (-30), 3) := by decide +kernel
theorem dX8_base_81 : decode cX8_base 81 = .ok (.iload_n 3, 1) := by decide +kernel
theorem dX8_base_82 : decode cX8_base 82 = .ok (.ireturn, 1) := by decide +kernel
theorem dX8_element_0 : decode cX8_element 0 = .ok (.iload_n 2, 1) := by decide +kernel
theorem dX8_element_1 : decode cX8_element 1 = .ok (.i2l, 1) := by decide +kernel
theorem dX8_element_2 : decode cX8_element 2 = .ok (.lconst 0, 1) := by decide +kernel
theorem dX8_element_3 : decode cX8_element 3 = .ok (.aload_n 0, 1) := by decide +kernel
theorem dX8_element_4 : decode cX8_element 4 = .ok (.iload_n 1, 1) := by decide +kernel
theorem dX8_element_5 : decode cX8_element 5 = .ok (.invokevirtual 216, 3) := by decide +kernel
theorem dX8_element_8 : decode cX8_element 8 = .ok (.iconst 1, 1) := by decide +kernel
theorem dX8_element_9 : decode cX8_element 9 = .ok (.isub, 1) := by decide +kernel
theorem dX8_element_10 : decode cX8_element 10 = .ok (.i2l, 1) := by decide +kernel
theorem dX8_element_11 : decode cX8_element 11 = .ok (.invokestatic 69, 3) := by decide +kernel
theorem dX8_element_14 : decode cX8_element 14 = .ok (.ifCond .ne 5, 3) := by decide +kernel
theorem dX8_element_17 : decode cX8_element 17 = .ok (.iconst (-1), 1) := by decide +kernel
theorem dX8_element_18 : decode cX8_element 18 = .ok (.ireturn, 1) := by decide +kernel
theorem dX8_element_19 : decode cX8_element 19 = .ok (.iload_n 1, 1) := by decide +kernel
theorem dX8_element_20 : decode cX8_element 20 = .ok (.ifCond .ne 10, 3) := by decide +kernel
theorem dX8_element_23 : decode cX8_element 23 = .ok (.aload_n 0, 1) := by decide +kernel
theorem dX8_element_24 : decode cX8_element 24 = .ok (.invokevirtual 89, 3) := by decide +kernel
theorem dX8_element_27 : decode cX8_element 27 = .ok (.goto 7, 3) := by decide +kernel
theorem dX8_element_30 : decode cX8_element 30 = .ok (.aload_n 0, 1) := by decide +kernel
theorem dX8_element_31 : decode cX8_element 31 = .ok (.invokevirtual 84, 3) := by decide +kernel
theorem dX8_element_34 : decode cX8_element 34 = .ok (.istore_n 3, 1) := by decide +kernel
theorem dX8_element_35 : decode cX8_element 35 = .ok (.iload_n 2, 1) := by decide +kernel
theorem dX8_element_36 : decode cX8_element 36 = .ok (.istore 4, 2) := by decide +kernel
theorem dX8_element_38 : decode cX8_element 38 = .ok (.iload 4, 2) := by decide +kernel
theorem dX8_element_40 : decode cX8_element 40 = .ok (.ifCond .lt 30, 3) := by decide +kernel
theorem dX8_element_43 : decode cX8_element 43 = .ok (.iinc 3 (-1), 3) := by decide +kernel
theorem dX8_element_46 : decode cX8_element 46 = .ok (.aload_n 0, 1) := by decide +kernel
theorem dX8_element_47 : decode cX8_element 47 = .ok (.iload_n 3, 1) := by decide +kernel
theorem dX8_element_48 : decode cX8_element 48 = .ok (.invokevirtual 181, 3) := by decide +kernel
theorem dX8_element_51 : decode cX8_element 51 = .ok (.aload_n 0, 1) := by decide +kernel
theorem dX8_element_52 : decode cX8_element 52 = .ok (.invokevirtual 96, 3) := by decide +kernel
theorem dX8_element_55 : decode cX8_element 55 = .ok (.if_icmp .ne 9, 3) := by decide +kernel
theorem dX8_element_58 : decode cX8_element 58 = .ok (.iinc 3 (-1), 3) := by decide +kernel
theorem dX8_element_61 : decode cX8_element 61 = .ok (.goto (-15), 3) := by decide +kernel
theorem dX8_element_64 : decode cX8_element 64 = .ok (.iinc 4 (-1), 3) := by decide +kernel
theorem dX8_element_67 : decode cX8_element 67 = .ok (.goto (-29), 3) := by decide +kernel
theorem dX8_element_70 : decode cX8_element 70 = .ok (.iload_n 1, 1) := by decide +kernel
theorem dX8_element_71 : decode cX8_element 71 = .ok (.iconst 1, 1) := by decide +kernel
theorem dX8_element_72 : decode cX8_element 72 = .ok (.if_icmp .ne 10, 3) := by decide +kernel
theorem dX8_element_75 : decode cX8_element 75 = .ok (.aload_n 0, 1) := by decide +kernel
theorem dX8_element_76 : decode cX8_element 76 = .ok (.iload_n 3, 1) := by decide +kernel
theorem dX8_element_77 : decode cX8_element 77 = .ok (.invokevirtual 198, 3) := by decide +kernel
theorem dX8_element_80 : decode cX8_element 80 = .ok (.iconst 1, 1) := by decide +kernel
theorem dX8_element_81 : decode cX8_element 81 = .ok (.ireturn, 1) := by decide +kernel
theorem dX8_element_82 : decode cX8_element 82 = .ok (.aload_n 0, 1) := by decide +kernel
theorem dX8_element_83 : decode cX8_element 83 = .ok (.aload_n 0, 1) := by decide +kernel
theorem dX8_element_84 : decode cX8_element 84 = .ok (.invokevirtual 89, 3) := by decide +kernel
theorem dX8_element_87 : decode cX8_element 87 = .ok (.iconst 1, 1) := by decide +kernel
theorem dX8_element_88 : decode cX8_element 88 = .ok (.invokevirtual 188, 3) := by decide +kernel
theorem dX8_element_91 : decode cX8_element 91 = .ok (.iconst 0, 1) := by decide +kernel
theorem dX8_element_92 : decode cX8_element 92 = .ok (.istore 4, 2) := by decide +kernel
theorem dX8_element_94 : decode cX8_element 94 = .ok (.iload 4, 2) := by decide +kernel
theorem dX8_element_96 : decode cX8_element 96 = .ok (.aload_n 0, 1) := by decide +kernel
theorem dX8_element_97 : decode cX8_element 97 = .ok (.invokevirtual 89, 3) := by decide +kernel
theorem dX8_element_100 : decode cX8_element 100 = .ok (.if_icmp .ge 38, 3) := by decide +kernel
theorem dX8_element_103 : decode cX8_element 103 = .ok (.aload_n 0, 1) := by decide +kernel
theorem dX8_element_104 : decode cX8_element 104 = .ok (.getfield 40, 3) := by decide +kernel
theorem dX8_element_107 : decode cX8_element 107 = .ok (.iload 4, 2) := by decide +kernel
theorem dX8_element_109 : decode cX8_element 109 = .ok (.iload 4, 2) := by decide +kernel
theorem dX8_element_111 : decode cX8_element 111 = .ok (.iload_n 3, 1) := by decide +kernel
theorem dX8_element_112 : decode cX8_element 112 = .ok (.if_icmp .le 7, 3) := by decide +kernel
theorem dX8_element_115 : decode cX8_element 115 = .ok (.iconst 0, 1) := by decide +kernel
theorem dX8_element_116 : decode cX8_element 116 = .ok (.goto 15, 3) := by decide +kernel
theorem dX8_element_119 : decode cX8_element 119 = .ok (.aload_n 0, 1) := by decide +kernel
theorem dX8_element_120 : decode cX8_element 120 = .ok (.getfield 28, 3) := by decide +kernel
theorem dX8_element_123 : decode cX8_element 123 = .ok (.bipush 37, 2) := by decide +kernel
theorem dX8_element_125 : decode cX8_element 125 = .ok (.iload_n 3, 1) := by decide +kernel
theorem dX8_element_126 : decode cX8_element 126 = .ok (.imul, 1) := by decide +kernel
theorem dX8_element_127 : decode cX8_element 127 = .ok (.iload 4, 2) := by decide +kernel
theorem dX8_element_129 : decode cX8_element 129 = .ok (.iadd, 1) := by decide +kernel
theorem dX8_element_130 : decode cX8_element 130 = .ok (.iaload, 1) := by decide +kernel
theorem dX8_element_131 : decode cX8_element 131 = .ok (.iastore, 1) := by decide +kernel
theorem dX8_element_132 : decode cX8_element 132 = .ok (.iinc 4 1, 3) := by decide +kernel
theorem dX8_element_135 : decode cX8_element 135 = .ok (.goto (-41), 3) := by decide +kernel
theorem dX8_element_138 : decode cX8_element 138 = .ok (.iconst 1, 1) := by decide +kernel
theorem dX8_element_139 : decode cX8_element 139 = .ok (.ireturn, 1) := by decide +kernel
theorem dX8_costOf_0 : decode cX8_costOf 0 = .ok (.lconst 0, 1) := by decide +kernel
theorem dX8_costOf_1 : decode cX8_costOf 1 = .ok (.lstore_n 1, 1) := by decide +kernel
theorem dX8_costOf_2 : decode cX8_costOf 2 = .ok (.iconst 0, 1) := by decide +kernel
theorem dX8_costOf_3 : decode cX8_costOf 3 = .ok (.istore_n 3, 1) := by decide +kernel
theorem dX8_costOf_4 : decode cX8_costOf 4 = .ok (.iload_n 3, 1) := by decide +kernel
theorem dX8_costOf_5 : decode cX8_costOf 5 = .ok (.aload_n 0, 1) := by decide +kernel
theorem dX8_costOf_6 : decode cX8_costOf 6 = .ok (.invokevirtual 89, 3) := by decide +kernel
theorem dX8_costOf_9 : decode cX8_costOf 9 = .ok (.if_icmp .ge 31, 3) := by decide +kernel
theorem dX8_costOf_12 : decode cX8_costOf 12 = .ok (.lload_n 1, 1) := by decide +kernel
theorem dX8_costOf_13 : decode cX8_costOf 13 = .ok (.aload_n 0, 1) := by decide +kernel
theorem dX8_costOf_14 : decode cX8_costOf 14 = .ok (.getfield 40, 3) := by decide +kernel
theorem dX8_costOf_17 : decode cX8_costOf 17 = .ok (.iload_n 3, 1) := by decide +kernel
theorem dX8_costOf_18 : decode cX8_costOf 18 = .ok (.iaload, 1) := by decide +kernel
theorem dX8_costOf_19 : decode cX8_costOf 19 = .ok (.i2l, 1) := by decide +kernel
theorem dX8_costOf_20 : decode cX8_costOf 20 = .ok (.aload_n 0, 1) := by decide +kernel
theorem dX8_costOf_21 : decode cX8_costOf 21 = .ok (.getfield 9, 3) := by decide +kernel
theorem dX8_costOf_24 : decode cX8_costOf 24 = .ok (.sipush 184, 3) := by decide +kernel
theorem dX8_costOf_27 : decode cX8_costOf 27 = .ok (.iload_n 3, 1) := by decide +kernel
theorem dX8_costOf_28 : decode cX8_costOf 28 = .ok (.iadd, 1) := by decide +kernel
theorem dX8_costOf_29 : decode cX8_costOf 29 = .ok (.iaload, 1) := by decide +kernel
theorem dX8_costOf_30 : decode cX8_costOf 30 = .ok (.i2l, 1) := by decide +kernel
theorem dX8_costOf_31 : decode cX8_costOf 31 = .ok (.lmul, 1) := by decide +kernel
theorem dX8_costOf_32 : decode cX8_costOf 32 = .ok (.ladd, 1) := by decide +kernel
theorem dX8_costOf_33 : decode cX8_costOf 33 = .ok (.lstore_n 1, 1) := by decide +kernel
theorem dX8_costOf_34 : decode cX8_costOf 34 = .ok (.iinc 3 1, 3) := by decide +kernel
theorem dX8_costOf_37 : decode cX8_costOf 37 = .ok (.goto (-33), 3) := by decide +kernel
theorem dX8_costOf_40 : decode cX8_costOf 40 = .ok (.lload_n 1, 1) := by decide +kernel
theorem dX8_costOf_41 : decode cX8_costOf 41 = .ok (.lreturn, 1) := by decide +kernel
theorem dX8_quiet_0 : decode cX8_quiet 0 = .ok (.lconst 1, 1) := by decide +kernel
theorem dX8_quiet_1 : decode cX8_quiet 1 = .ok (.lstore_n 1, 1) := by decide +kernel
theorem dX8_quiet_2 : decode cX8_quiet 2 = .ok (.iconst 0, 1) := by decide +kernel
theorem dX8_quiet_3 : decode cX8_quiet 3 = .ok (.istore_n 3, 1) := by decide +kernel
theorem dX8_quiet_4 : decode cX8_quiet 4 = .ok (.iload_n 3, 1) := by decide +kernel
theorem dX8_quiet_5 : decode cX8_quiet 5 = .ok (.aload_n 0, 1) := by decide +kernel
theorem dX8_quiet_6 : decode cX8_quiet 6 = .ok (.invokevirtual 89, 3) := by decide +kernel
theorem dX8_quiet_9 : decode cX8_quiet 9 = .ok (.if_icmp .ge 31, 3) := by decide +kernel
theorem dX8_quiet_12 : decode cX8_quiet 12 = .ok (.lload_n 1, 1) := by decide +kernel
theorem dX8_quiet_13 : decode cX8_quiet 13 = .ok (.ldc2_w 219, 3) := by decide +kernel
theorem dX8_quiet_16 : decode cX8_quiet 16 = .ok (.lcmp, 1) := by decide +kernel
theorem dX8_quiet_17 : decode cX8_quiet 17 = .ok (.ifCond .gt 23, 3) := by decide +kernel
theorem dX8_quiet_20 : decode cX8_quiet 20 = .ok (.lload_n 1, 1) := by decide +kernel
theorem dX8_quiet_21 : decode cX8_quiet 21 = .ok (.aload_n 0, 1) := by decide +kernel
theorem dX8_quiet_22 : decode cX8_quiet 22 = .ok (.invokevirtual 96, 3) := by decide +kernel
theorem dX8_quiet_25 : decode cX8_quiet 25 = .ok (.aload_n 0, 1) := by decide +kernel
theorem dX8_quiet_26 : decode cX8_quiet 26 = .ok (.iload_n 3, 1) := by decide +kernel
theorem dX8_quiet_27 : decode cX8_quiet 27 = .ok (.invokevirtual 181, 3) := by decide +kernel
theorem dX8_quiet_30 : decode cX8_quiet 30 = .ok (.idiv, 1) := by decide +kernel
theorem dX8_quiet_31 : decode cX8_quiet 31 = .ok (.i2l, 1) := by decide +kernel
theorem dX8_quiet_32 : decode cX8_quiet 32 = .ok (.lmul, 1) := by decide +kernel
theorem dX8_quiet_33 : decode cX8_quiet 33 = .ok (.lstore_n 1, 1) := by decide +kernel
theorem dX8_quiet_34 : decode cX8_quiet 34 = .ok (.iinc 3 1, 3) := by decide +kernel
theorem dX8_quiet_37 : decode cX8_quiet 37 = .ok (.goto (-33), 3) := by decide +kernel
theorem dX8_quiet_40 : decode cX8_quiet 40 = .ok (.lload_n 1, 1) := by decide +kernel
theorem dX8_quiet_41 : decode cX8_quiet 41 = .ok (.lreturn, 1) := by decide +kernel
theorem dX8_least_0 : decode cX8_least 0 = .ok (.aload_n 0, 1) := by decide +kernel
theorem dX8_least_1 : decode cX8_least 1 = .ok (.invokevirtual 184, 3) := by decide +kernel
theorem dX8_least_4 : decode cX8_least 4 = .ok (.ifCond .ne 7, 3) := by decide +kernel
theorem dX8_least_7 : decode cX8_least 7 = .ok (.ldc2_w 221, 3) := by decide +kernel
theorem dX8_least_10 : decode cX8_least 10 = .ok (.lreturn, 1) := by decide +kernel
theorem dX8_least_11 : decode cX8_least 11 = .ok (.aload_n 0, 1) := by decide +kernel
theorem dX8_least_12 : decode cX8_least 12 = .ok (.invokevirtual 223, 3) := by decide +kernel
theorem dX8_least_15 : decode cX8_least 15 = .ok (.ldc2_w 219, 3) := by decide +kernel
theorem dX8_least_18 : decode cX8_least 18 = .ok (.lcmp, 1) := by decide +kernel
theorem dX8_least_19 : decode cX8_least 19 = .ok (.ifCond .le 7, 3) := by decide +kernel
theorem dX8_least_22 : decode cX8_least 22 = .ok (.ldc2_w 227, 3) := by decide +kernel
theorem dX8_least_25 : decode cX8_least 25 = .ok (.lreturn, 1) := by decide +kernel
theorem dX8_least_26 : decode cX8_least 26 = .ok (.aload_n 0, 1) := by decide +kernel
theorem dX8_least_27 : decode cX8_least 27 = .ok (.invokevirtual 89, 3) := by decide +kernel
theorem dX8_least_30 : decode cX8_least 30 = .ok (.istore_n 1, 1) := by decide +kernel
theorem dX8_least_31 : decode cX8_least 31 = .ok (.aload_n 0, 1) := by decide +kernel
theorem dX8_least_32 : decode cX8_least 32 = .ok (.iload_n 1, 1) := by decide +kernel
theorem dX8_least_33 : decode cX8_least 33 = .ok (.iconst 1, 1) := by decide +kernel
theorem dX8_least_34 : decode cX8_least 34 = .ok (.invokevirtual 188, 3) := by decide +kernel
theorem dX8_least_37 : decode cX8_least 37 = .ok (.iconst 0, 1) := by decide +kernel
theorem dX8_least_38 : decode cX8_least 38 = .ok (.istore_n 2, 1) := by decide +kernel
theorem dX8_least_39 : decode cX8_least 39 = .ok (.iload_n 2, 1) := by decide +kernel
theorem dX8_least_40 : decode cX8_least 40 = .ok (.iload_n 1, 1) := by decide +kernel
theorem dX8_least_41 : decode cX8_least 41 = .ok (.if_icmp .ge 26, 3) := by decide +kernel
theorem dX8_least_44 : decode cX8_least 44 = .ok (.aload_n 0, 1) := by decide +kernel
theorem dX8_least_45 : decode cX8_least 45 = .ok (.getfield 40, 3) := by decide +kernel
theorem dX8_least_48 : decode cX8_least 48 = .ok (.iload_n 2, 1) := by decide +kernel
theorem dX8_least_49 : decode cX8_least 49 = .ok (.aload_n 0, 1) := by decide +kernel
theorem dX8_least_50 : decode cX8_least 50 = .ok (.getfield 28, 3) := by decide +kernel
theorem dX8_least_53 : decode cX8_least 53 = .ok (.bipush 37, 2) := by decide +kernel
theorem dX8_least_55 : decode cX8_least 55 = .ok (.iload_n 1, 1) := by decide +kernel
theorem dX8_least_56 : decode cX8_least 56 = .ok (.imul, 1) := by decide +kernel
theorem dX8_least_57 : decode cX8_least 57 = .ok (.iload_n 2, 1) := by decide +kernel
theorem dX8_least_58 : decode cX8_least 58 = .ok (.iadd, 1) := by decide +kernel
theorem dX8_least_59 : decode cX8_least 59 = .ok (.iaload, 1) := by decide +kernel
theorem dX8_least_60 : decode cX8_least 60 = .ok (.iastore, 1) := by decide +kernel
theorem dX8_least_61 : decode cX8_least 61 = .ok (.iinc 2 1, 3) := by decide +kernel
theorem dX8_least_64 : decode cX8_least 64 = .ok (.goto (-25), 3) := by decide +kernel
theorem dX8_least_67 : decode cX8_least 67 = .ok (.aload_n 0, 1) := by decide +kernel
theorem dX8_least_68 : decode cX8_least 68 = .ok (.invokevirtual 229, 3) := by decide +kernel
theorem dX8_least_71 : decode cX8_least 71 = .ok (.lstore_n 2, 1) := by decide +kernel
theorem dX8_least_72 : decode cX8_least 72 = .ok (.aload_n 0, 1) := by decide +kernel
theorem dX8_least_73 : decode cX8_least 73 = .ok (.aload_n 0, 1) := by decide +kernel
theorem dX8_least_74 : decode cX8_least 74 = .ok (.getfield 43, 3) := by decide +kernel
theorem dX8_least_77 : decode cX8_least 77 = .ok (.iload_n 1, 1) := by decide +kernel
theorem dX8_least_78 : decode cX8_least 78 = .ok (.invokevirtual 232, 3) := by decide +kernel
theorem dX8_least_81 : decode cX8_least 81 = .ok (.aload_n 0, 1) := by decide +kernel
theorem dX8_least_82 : decode cX8_least 82 = .ok (.iload_n 1, 1) := by decide +kernel
theorem dX8_least_83 : decode cX8_least 83 = .ok (.invokevirtual 201, 3) := by decide +kernel
theorem dX8_least_86 : decode cX8_least 86 = .ok (.ifCond .eq 31, 3) := by decide +kernel
theorem dX8_least_89 : decode cX8_least 89 = .ok (.aload_n 0, 1) := by decide +kernel
theorem dX8_least_90 : decode cX8_least 90 = .ok (.invokevirtual 229, 3) := by decide +kernel
theorem dX8_least_93 : decode cX8_least 93 = .ok (.lstore 4, 2) := by decide +kernel
theorem dX8_least_95 : decode cX8_least 95 = .ok (.lload 4, 2) := by decide +kernel
theorem dX8_least_97 : decode cX8_least 97 = .ok (.lload_n 2, 1) := by decide +kernel
theorem dX8_least_98 : decode cX8_least 98 = .ok (.lcmp, 1) := by decide +kernel
theorem dX8_least_99 : decode cX8_least 99 = .ok (.ifCond .ge 15, 3) := by decide +kernel
theorem dX8_least_102 : decode cX8_least 102 = .ok (.lload 4, 2) := by decide +kernel
theorem dX8_least_104 : decode cX8_least 104 = .ok (.lstore_n 2, 1) := by decide +kernel
theorem dX8_least_105 : decode cX8_least 105 = .ok (.aload_n 0, 1) := by decide +kernel
theorem dX8_least_106 : decode cX8_least 106 = .ok (.aload_n 0, 1) := by decide +kernel
theorem dX8_least_107 : decode cX8_least 107 = .ok (.getfield 43, 3) := by decide +kernel
theorem dX8_least_110 : decode cX8_least 110 = .ok (.iload_n 1, 1) := by decide +kernel
theorem dX8_least_111 : decode cX8_least 111 = .ok (.invokevirtual 232, 3) := by decide +kernel
theorem dX8_least_114 : decode cX8_least 114 = .ok (.goto (-33), 3) := by decide +kernel
theorem dX8_least_117 : decode cX8_least 117 = .ok (.iconst 0, 1) := by decide +kernel
theorem dX8_least_118 : decode cX8_least 118 = .ok (.istore 4, 2) := by decide +kernel
theorem dX8_least_120 : decode cX8_least 120 = .ok (.iload 4, 2) := by decide +kernel
theorem dX8_least_122 : decode cX8_least 122 = .ok (.iload_n 1, 1) := by decide +kernel
theorem dX8_least_123 : decode cX8_least 123 = .ok (.if_icmp .ge 23, 3) := by decide +kernel
theorem dX8_least_126 : decode cX8_least 126 = .ok (.aload_n 0, 1) := by decide +kernel
theorem dX8_least_127 : decode cX8_least 127 = .ok (.getfield 40, 3) := by decide +kernel
theorem dX8_least_130 : decode cX8_least 130 = .ok (.iload 4, 2) := by decide +kernel
theorem dX8_least_132 : decode cX8_least 132 = .ok (.aload_n 0, 1) := by decide +kernel
theorem dX8_least_133 : decode cX8_least 133 = .ok (.getfield 43, 3) := by decide +kernel
theorem dX8_least_136 : decode cX8_least 136 = .ok (.iload 4, 2) := by decide +kernel
theorem dX8_least_138 : decode cX8_least 138 = .ok (.iaload, 1) := by decide +kernel
theorem dX8_least_139 : decode cX8_least 139 = .ok (.iastore, 1) := by decide +kernel
theorem dX8_least_140 : decode cX8_least 140 = .ok (.iinc 4 1, 3) := by decide +kernel
theorem dX8_least_143 : decode cX8_least 143 = .ok (.goto (-23), 3) := by decide +kernel
theorem dX8_least_146 : decode cX8_least 146 = .ok (.lload_n 2, 1) := by decide +kernel
theorem dX8_least_147 : decode cX8_least 147 = .ok (.lreturn, 1) := by decide +kernel
theorem dX8_keepsRow_0 : decode cX8_keepsRow 0 = .ok (.iconst 0, 1) := by decide +kernel
theorem dX8_keepsRow_1 : decode cX8_keepsRow 1 = .ok (.istore_n 3, 1) := by decide +kernel
theorem dX8_keepsRow_2 : decode cX8_keepsRow 2 = .ok (.iload_n 3, 1) := by decide +kernel
theorem dX8_keepsRow_3 : decode cX8_keepsRow 3 = .ok (.iload_n 2, 1) := by decide +kernel
theorem dX8_keepsRow_4 : decode cX8_keepsRow 4 = .ok (.if_icmp .ge 18, 3) := by decide +kernel
theorem dX8_keepsRow_7 : decode cX8_keepsRow 7 = .ok (.aload_n 1, 1) := by decide +kernel
theorem dX8_keepsRow_8 : decode cX8_keepsRow 8 = .ok (.iload_n 3, 1) := by decide +kernel
theorem dX8_keepsRow_9 : decode cX8_keepsRow 9 = .ok (.aload_n 0, 1) := by decide +kernel
theorem dX8_keepsRow_10 : decode cX8_keepsRow 10 = .ok (.getfield 40, 3) := by decide +kernel
theorem dX8_keepsRow_13 : decode cX8_keepsRow 13 = .ok (.iload_n 3, 1) := by decide +kernel
theorem dX8_keepsRow_14 : decode cX8_keepsRow 14 = .ok (.iaload, 1) := by decide +kernel
theorem dX8_keepsRow_15 : decode cX8_keepsRow 15 = .ok (.iastore, 1) := by decide +kernel
theorem dX8_keepsRow_16 : decode cX8_keepsRow 16 = .ok (.iinc 3 1, 3) := by decide +kernel
theorem dX8_keepsRow_19 : decode cX8_keepsRow 19 = .ok (.goto (-17), 3) := by decide +kernel
theorem dX8_keepsRow_22 : decode cX8_keepsRow 22 = .ok (.return_, 1) := by decide +kernel
theorem dX8_pushes_0 : decode cX8_pushes 0 = .ok (.lconst 1, 1) := by decide +kernel
theorem dX8_pushes_1 : decode cX8_pushes 1 = .ok (.lstore_n 1, 1) := by decide +kernel
theorem dX8_pushes_2 : decode cX8_pushes 2 = .ok (.iconst 0, 1) := by decide +kernel
theorem dX8_pushes_3 : decode cX8_pushes 3 = .ok (.istore_n 3, 1) := by decide +kernel
theorem dX8_pushes_4 : decode cX8_pushes 4 = .ok (.iload_n 3, 1) := by decide +kernel
theorem dX8_pushes_5 : decode cX8_pushes 5 = .ok (.aload_n 0, 1) := by decide +kernel
theorem dX8_pushes_6 : decode cX8_pushes 6 = .ok (.invokevirtual 89, 3) := by decide +kernel
theorem dX8_pushes_9 : decode cX8_pushes 9 = .ok (.if_icmp .ge 37, 3) := by decide +kernel
theorem dX8_pushes_12 : decode cX8_pushes 12 = .ok (.lload_n 1, 1) := by decide +kernel
theorem dX8_pushes_13 : decode cX8_pushes 13 = .ok (.ldc2_w 219, 3) := by decide +kernel
theorem dX8_pushes_16 : decode cX8_pushes 16 = .ok (.lcmp, 1) := by decide +kernel
theorem dX8_pushes_17 : decode cX8_pushes 17 = .ok (.ifCond .gt 29, 3) := by decide +kernel
theorem dX8_pushes_20 : decode cX8_pushes 20 = .ok (.lload_n 1, 1) := by decide +kernel
theorem dX8_pushes_21 : decode cX8_pushes 21 = .ok (.aload_n 0, 1) := by decide +kernel
theorem dX8_pushes_22 : decode cX8_pushes 22 = .ok (.iload_n 3, 1) := by decide +kernel
theorem dX8_pushes_23 : decode cX8_pushes 23 = .ok (.invokevirtual 137, 3) := by decide +kernel
