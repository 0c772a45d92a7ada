theorem dX8_pushes_26 : decode cX8_pushes 26 = .ok (.ifCond .eq 7, 3) := by decide +kernel
theorem dX8_pushes_29 : decode cX8_pushes 29 = .ok (.lconst 1, 1) := by decide +kernel
theorem dX8_pushes_30 : decode cX8_pushes 30 = .ok (.goto 8, 3) := by decide +kernel
theorem dX8_pushes_33 : decode cX8_pushes 33 = .ok (.aload_n 0, 1) := by decide +kernel
theorem dX8_pushes_34 : decode cX8_pushes 34 = .ok (.invokevirtual 96, 3) := by decide +kernel
theorem dX8_pushes_37 : decode cX8_pushes 37 = .ok (.i2l, 1) := by decide +kernel
theorem dX8_pushes_38 : decode cX8_pushes 38 = .ok (.lmul, 1) := by decide +kernel
theorem dX8_pushes_39 : decode cX8_pushes 39 = .ok (.lstore_n 1, 1) := by decide +kernel
theorem dX8_pushes_40 : decode cX8_pushes 40 = .ok (.iinc 3 1, 3) := by decide +kernel
theorem dX8_pushes_43 : decode cX8_pushes 43 = .ok (.goto (-39), 3) := by decide +kernel
theorem dX8_pushes_46 : decode cX8_pushes 46 = .ok (.lload_n 1, 1) := by decide +kernel
theorem dX8_pushes_47 : decode cX8_pushes 47 = .ok (.lreturn, 1) := by decide +kernel
theorem dX8_numberOf_0 : decode cX8_numberOf 0 = .ok (.iconst 0, 1) := by decide +kernel
theorem dX8_numberOf_1 : decode cX8_numberOf 1 = .ok (.istore_n 1, 1) := by decide +kernel
theorem dX8_numberOf_2 : decode cX8_numberOf 2 = .ok (.aload_n 0, 1) := by decide +kernel
theorem dX8_numberOf_3 : decode cX8_numberOf 3 = .ok (.invokevirtual 89, 3) := by decide +kernel
theorem dX8_numberOf_6 : decode cX8_numberOf 6 = .ok (.iconst 1, 1) := by decide +kernel
theorem dX8_numberOf_7 : decode cX8_numberOf 7 = .ok (.isub, 1) := by decide +kernel
theorem dX8_numberOf_8 : decode cX8_numberOf 8 = .ok (.istore_n 2, 1) := by decide +kernel
theorem dX8_numberOf_9 : decode cX8_numberOf 9 = .ok (.iload_n 2, 1) := by decide +kernel
theorem dX8_numberOf_10 : decode cX8_numberOf 10 = .ok (.ifCond .lt 32, 3) := by decide +kernel
theorem dX8_numberOf_13 : decode cX8_numberOf 13 = .ok (.aload_n 0, 1) := by decide +kernel
theorem dX8_numberOf_14 : decode cX8_numberOf 14 = .ok (.iload_n 2, 1) := by decide +kernel
theorem dX8_numberOf_15 : decode cX8_numberOf 15 = .ok (.invokevirtual 137, 3) := by decide +kernel
theorem dX8_numberOf_18 : decode cX8_numberOf 18 = .ok (.ifCond .ne 18, 3) := by decide +kernel
theorem dX8_numberOf_21 : decode cX8_numberOf 21 = .ok (.iload_n 1, 1) := by decide +kernel
theorem dX8_numberOf_22 : decode cX8_numberOf 22 = .ok (.aload_n 0, 1) := by decide +kernel
theorem dX8_numberOf_23 : decode cX8_numberOf 23 = .ok (.iload_n 2, 1) := by decide +kernel
theorem dX8_numberOf_24 : decode cX8_numberOf 24 = .ok (.invokevirtual 181, 3) := by decide +kernel
theorem dX8_numberOf_27 : decode cX8_numberOf 27 = .ok (.imul, 1) := by decide +kernel
theorem dX8_numberOf_28 : decode cX8_numberOf 28 = .ok (.aload_n 0, 1) := by decide +kernel
theorem dX8_numberOf_29 : decode cX8_numberOf 29 = .ok (.getfield 40, 3) := by decide +kernel
theorem dX8_numberOf_32 : decode cX8_numberOf 32 = .ok (.iload_n 2, 1) := by decide +kernel
theorem dX8_numberOf_33 : decode cX8_numberOf 33 = .ok (.iaload, 1) := by decide +kernel
theorem dX8_numberOf_34 : decode cX8_numberOf 34 = .ok (.iadd, 1) := by decide +kernel
theorem dX8_numberOf_35 : decode cX8_numberOf 35 = .ok (.istore_n 1, 1) := by decide +kernel
theorem dX8_numberOf_36 : decode cX8_numberOf 36 = .ok (.iinc 2 (-1), 3) := by decide +kernel
theorem dX8_numberOf_39 : decode cX8_numberOf 39 = .ok (.goto (-30), 3) := by decide +kernel
theorem dX8_numberOf_42 : decode cX8_numberOf 42 = .ok (.iload_n 1, 1) := by decide +kernel
theorem dX8_numberOf_43 : decode cX8_numberOf 43 = .ok (.ireturn, 1) := by decide +kernel
theorem dX8_pushing_0 : decode cX8_pushing 0 = .ok (.iload_n 1, 1) := by decide +kernel
theorem dX8_pushing_1 : decode cX8_pushing 1 = .ok (.istore_n 2, 1) := by decide +kernel
theorem dX8_pushing_2 : decode cX8_pushing 2 = .ok (.iconst 0, 1) := by decide +kernel
theorem dX8_pushing_3 : decode cX8_pushing 3 = .ok (.istore_n 3, 1) := by decide +kernel
theorem dX8_pushing_4 : decode cX8_pushing 4 = .ok (.iload_n 3, 1) := by decide +kernel
theorem dX8_pushing_5 : decode cX8_pushing 5 = .ok (.aload_n 0, 1) := by decide +kernel
theorem dX8_pushing_6 : decode cX8_pushing 6 = .ok (.invokevirtual 89, 3) := by decide +kernel
theorem dX8_pushing_9 : decode cX8_pushing 9 = .ok (.if_icmp .ge 52, 3) := by decide +kernel
theorem dX8_pushing_12 : decode cX8_pushing 12 = .ok (.aload_n 0, 1) := by decide +kernel
theorem dX8_pushing_13 : decode cX8_pushing 13 = .ok (.getfield 40, 3) := by decide +kernel
theorem dX8_pushing_16 : decode cX8_pushing 16 = .ok (.iload_n 3, 1) := by decide +kernel
theorem dX8_pushing_17 : decode cX8_pushing 17 = .ok (.aload_n 0, 1) := by decide +kernel
theorem dX8_pushing_18 : decode cX8_pushing 18 = .ok (.iload_n 3, 1) := by decide +kernel
theorem dX8_pushing_19 : decode cX8_pushing 19 = .ok (.invokevirtual 137, 3) := by decide +kernel
theorem dX8_pushing_22 : decode cX8_pushing 22 = .ok (.ifCond .eq 7, 3) := by decide +kernel
theorem dX8_pushing_25 : decode cX8_pushing 25 = .ok (.iconst 0, 1) := by decide +kernel
theorem dX8_pushing_26 : decode cX8_pushing 26 = .ok (.goto 9, 3) := by decide +kernel
theorem dX8_pushing_29 : decode cX8_pushing 29 = .ok (.iload_n 2, 1) := by decide +kernel
theorem dX8_pushing_30 : decode cX8_pushing 30 = .ok (.aload_n 0, 1) := by decide +kernel
theorem dX8_pushing_31 : decode cX8_pushing 31 = .ok (.invokevirtual 96, 3) := by decide +kernel
theorem dX8_pushing_34 : decode cX8_pushing 34 = .ok (.irem, 1) := by decide +kernel
theorem dX8_pushing_35 : decode cX8_pushing 35 = .ok (.iastore, 1) := by decide +kernel
theorem dX8_pushing_36 : decode cX8_pushing 36 = .ok (.aload_n 0, 1) := by decide +kernel
theorem dX8_pushing_37 : decode cX8_pushing 37 = .ok (.iload_n 3, 1) := by decide +kernel
theorem dX8_pushing_38 : decode cX8_pushing 38 = .ok (.invokevirtual 137, 3) := by decide +kernel
theorem dX8_pushing_41 : decode cX8_pushing 41 = .ok (.ifCond .eq 7, 3) := by decide +kernel
theorem dX8_pushing_44 : decode cX8_pushing 44 = .ok (.iload_n 2, 1) := by decide +kernel
theorem dX8_pushing_45 : decode cX8_pushing 45 = .ok (.goto 9, 3) := by decide +kernel
theorem dX8_pushing_48 : decode cX8_pushing 48 = .ok (.iload_n 2, 1) := by decide +kernel
theorem dX8_pushing_49 : decode cX8_pushing 49 = .ok (.aload_n 0, 1) := by decide +kernel
theorem dX8_pushing_50 : decode cX8_pushing 50 = .ok (.invokevirtual 96, 3) := by decide +kernel
theorem dX8_pushing_53 : decode cX8_pushing 53 = .ok (.idiv, 1) := by decide +kernel
theorem dX8_pushing_54 : decode cX8_pushing 54 = .ok (.istore_n 2, 1) := by decide +kernel
theorem dX8_pushing_55 : decode cX8_pushing 55 = .ok (.iinc 3 1, 3) := by decide +kernel
theorem dX8_pushing_58 : decode cX8_pushing 58 = .ok (.goto (-54), 3) := by decide +kernel
theorem dX8_pushing_61 : decode cX8_pushing 61 = .ok (.return_, 1) := by decide +kernel
theorem dX8_worst_0 : decode cX8_worst 0 = .ok (.aload_n 0, 1) := by decide +kernel
theorem dX8_worst_1 : decode cX8_worst 1 = .ok (.invokevirtual 178, 3) := by decide +kernel
theorem dX8_worst_4 : decode cX8_worst 4 = .ok (.aload_n 0, 1) := by decide +kernel
theorem dX8_worst_5 : decode cX8_worst 5 = .ok (.invokevirtual 236, 3) := by decide +kernel
theorem dX8_worst_8 : decode cX8_worst 8 = .ok (.lstore_n 1, 1) := by decide +kernel
theorem dX8_worst_9 : decode cX8_worst 9 = .ok (.aload_n 0, 1) := by decide +kernel
theorem dX8_worst_10 : decode cX8_worst 10 = .ok (.invokevirtual 223, 3) := by decide +kernel
theorem dX8_worst_13 : decode cX8_worst 13 = .ok (.ldc2_w 219, 3) := by decide +kernel
theorem dX8_worst_16 : decode cX8_worst 16 = .ok (.lcmp, 1) := by decide +kernel
theorem dX8_worst_17 : decode cX8_worst 17 = .ok (.ifCond .gt 11, 3) := by decide +kernel
theorem dX8_worst_20 : decode cX8_worst 20 = .ok (.lload_n 1, 1) := by decide +kernel
theorem dX8_worst_21 : decode cX8_worst 21 = .ok (.ldc2_w 219, 3) := by decide +kernel
theorem dX8_worst_24 : decode cX8_worst 24 = .ok (.lcmp, 1) := by decide +kernel
theorem dX8_worst_25 : decode cX8_worst 25 = .ok (.ifCond .le 7, 3) := by decide +kernel
theorem dX8_worst_28 : decode cX8_worst 28 = .ok (.ldc2_w 227, 3) := by decide +kernel
theorem dX8_worst_31 : decode cX8_worst 31 = .ok (.lreturn, 1) := by decide +kernel
theorem dX8_worst_32 : decode cX8_worst 32 = .ok (.aload_n 0, 1) := by decide +kernel
theorem dX8_worst_33 : decode cX8_worst 33 = .ok (.invokevirtual 89, 3) := by decide +kernel
theorem dX8_worst_36 : decode cX8_worst 36 = .ok (.istore_n 3, 1) := by decide +kernel
theorem dX8_worst_37 : decode cX8_worst 37 = .ok (.lload_n 1, 1) := by decide +kernel
theorem dX8_worst_38 : decode cX8_worst 38 = .ok (.aload_n 0, 1) := by decide +kernel
theorem dX8_worst_39 : decode cX8_worst 39 = .ok (.invokevirtual 223, 3) := by decide +kernel
theorem dX8_worst_42 : decode cX8_worst 42 = .ok (.ldiv, 1) := by decide +kernel
theorem dX8_worst_43 : decode cX8_worst 43 = .ok (.l2i, 1) := by decide +kernel
theorem dX8_worst_44 : decode cX8_worst 44 = .ok (.istore 4, 2) := by decide +kernel
theorem dX8_worst_46 : decode cX8_worst 46 = .ok (.iconst 0, 1) := by decide +kernel
theorem dX8_worst_47 : decode cX8_worst 47 = .ok (.istore 5, 2) := by decide +kernel
theorem dX8_worst_49 : decode cX8_worst 49 = .ok (.iload 5, 2) := by decide +kernel
theorem dX8_worst_51 : decode cX8_worst 51 = .ok (.iload 4, 2) := by decide +kernel
theorem dX8_worst_53 : decode cX8_worst 53 = .ok (.if_icmp .ge 19, 3) := by decide +kernel
theorem dX8_worst_56 : decode cX8_worst 56 = .ok (.aload_n 0, 1) := by decide +kernel
theorem dX8_worst_57 : decode cX8_worst 57 = .ok (.getfield 50, 3) := by decide +kernel
theorem dX8_worst_60 : decode cX8_worst 60 = .ok (.iload 5, 2) := by decide +kernel
theorem dX8_worst_62 : decode cX8_worst 62 = .ok (.ldc2_w 241, 3) := by decide +kernel
theorem dX8_worst_65 : decode cX8_worst 65 = .ok (.lastore, 1) := by decide +kernel
theorem dX8_worst_66 : decode cX8_worst 66 = .ok (.iinc 5 1, 3) := by decide +kernel
theorem dX8_worst_69 : decode cX8_worst 69 = .ok (.goto (-20), 3) := by decide +kernel
theorem dX8_worst_72 : decode cX8_worst 72 = .ok (.iconst 0, 1) := by decide +kernel
theorem dX8_worst_73 : decode cX8_worst 73 = .ok (.istore 5, 2) := by decide +kernel
theorem dX8_worst_75 : decode cX8_worst 75 = .ok (.iload 5, 2) := by decide +kernel
theorem dX8_worst_77 : decode cX8_worst 77 = .ok (.i2l, 1) := by decide +kernel
theorem dX8_worst_78 : decode cX8_worst 78 = .ok (.lload_n 1, 1) := by decide +kernel
theorem dX8_worst_79 : decode cX8_worst 79 = .ok (.lcmp, 1) := by decide +kernel
theorem dX8_worst_80 : decode cX8_worst 80 = .ok (.ifCond .ge 51, 3) := by decide +kernel
theorem dX8_worst_83 : decode cX8_worst 83 = .ok (.aload_n 0, 1) := by decide +kernel
theorem dX8_worst_84 : decode cX8_worst 84 = .ok (.iload 5, 2) := by decide +kernel
theorem dX8_worst_86 : decode cX8_worst 86 = .ok (.invokevirtual 243, 3) := by decide +kernel
theorem dX8_worst_89 : decode cX8_worst 89 = .ok (.aload_n 0, 1) := by decide +kernel
theorem dX8_worst_90 : decode cX8_worst 90 = .ok (.invokevirtual 229, 3) := by decide +kernel
theorem dX8_worst_93 : decode cX8_worst 93 = .ok (.lstore 6, 2) := by decide +kernel
theorem dX8_worst_95 : decode cX8_worst 95 = .ok (.aload_n 0, 1) := by decide +kernel
theorem dX8_worst_96 : decode cX8_worst 96 = .ok (.iload_n 3, 1) := by decide +kernel
theorem dX8_worst_97 : decode cX8_worst 97 = .ok (.invokevirtual 204, 3) := by decide +kernel
theorem dX8_worst_100 : decode cX8_worst 100 = .ok (.aload_n 0, 1) := by decide +kernel
theorem dX8_worst_101 : decode cX8_worst 101 = .ok (.invokevirtual 246, 3) := by decide +kernel
theorem dX8_worst_104 : decode cX8_worst 104 = .ok (.istore 8, 2) := by decide +kernel
theorem dX8_worst_106 : decode cX8_worst 106 = .ok (.aload_n 0, 1) := by decide +kernel
theorem dX8_worst_107 : decode cX8_worst 107 = .ok (.getfield 50, 3) := by decide +kernel
theorem dX8_worst_110 : decode cX8_worst 110 = .ok (.iload 8, 2) := by decide +kernel
theorem dX8_worst_112 : decode cX8_worst 112 = .ok (.aload_n 0, 1) := by decide +kernel
theorem dX8_worst_113 : decode cX8_worst 113 = .ok (.getfield 50, 3) := by decide +kernel
theorem dX8_worst_116 : decode cX8_worst 116 = .ok (.iload 8, 2) := by decide +kernel
theorem dX8_worst_118 : decode cX8_worst 118 = .ok (.laload, 1) := by decide +kernel
theorem dX8_worst_119 : decode cX8_worst 119 = .ok (.lload 6, 2) := by decide +kernel
theorem dX8_worst_121 : decode cX8_worst 121 = .ok (.invokestatic 249, 3) := by decide +kernel
theorem dX8_worst_124 : decode cX8_worst 124 = .ok (.lastore, 1) := by decide +kernel
theorem dX8_worst_125 : decode cX8_worst 125 = .ok (.iinc 5 1, 3) := by decide +kernel
theorem dX8_worst_128 : decode cX8_worst 128 = .ok (.goto (-53), 3) := by decide +kernel
theorem dX8_worst_131 : decode cX8_worst 131 = .ok (.ldc2_w 221, 3) := by decide +kernel
theorem dX8_worst_134 : decode cX8_worst 134 = .ok (.lstore 5, 2) := by decide +kernel
theorem dX8_worst_136 : decode cX8_worst 136 = .ok (.iconst 0, 1) := by decide +kernel
theorem dX8_worst_137 : decode cX8_worst 137 = .ok (.istore 7, 2) := by decide +kernel
theorem dX8_worst_139 : decode cX8_worst 139 = .ok (.iload 7, 2) := by decide +kernel
theorem dX8_worst_141 : decode cX8_worst 141 = .ok (.i2l, 1) := by decide +kernel
theorem dX8_worst_142 : decode cX8_worst 142 = .ok (.lload_n 1, 1) := by decide +kernel
theorem dX8_worst_143 : decode cX8_worst 143 = .ok (.lcmp, 1) := by decide +kernel
theorem dX8_worst_144 : decode cX8_worst 144 = .ok (.ifCond .ge 113, 3) := by decide +kernel
theorem dX8_worst_147 : decode cX8_worst 147 = .ok (.aload_n 0, 1) := by decide +kernel
theorem dX8_worst_148 : decode cX8_worst 148 = .ok (.iload 7, 2) := by decide +kernel
theorem dX8_worst_150 : decode cX8_worst 150 = .ok (.invokevirtual 243, 3) := by decide +kernel
theorem dX8_worst_153 : decode cX8_worst 153 = .ok (.aload_n 0, 1) := by decide +kernel
theorem dX8_worst_154 : decode cX8_worst 154 = .ok (.aload_n 0, 1) := by decide +kernel
theorem dX8_worst_155 : decode cX8_worst 155 = .ok (.getfield 46, 3) := by decide +kernel
theorem dX8_worst_158 : decode cX8_worst 158 = .ok (.iload_n 3, 1) := by decide +kernel
theorem dX8_worst_159 : decode cX8_worst 159 = .ok (.invokevirtual 232, 3) := by decide +kernel
theorem dX8_worst_162 : decode cX8_worst 162 = .ok (.aload_n 0, 1) := by decide +kernel
theorem dX8_worst_163 : decode cX8_worst 163 = .ok (.iload_n 3, 1) := by decide +kernel
theorem dX8_worst_164 : decode cX8_worst 164 = .ok (.invokevirtual 204, 3) := by decide +kernel
theorem dX8_worst_167 : decode cX8_worst 167 = .ok (.aload_n 0, 1) := by decide +kernel
theorem dX8_worst_168 : decode cX8_worst 168 = .ok (.aload_n 0, 1) := by decide +kernel
theorem dX8_worst_169 : decode cX8_worst 169 = .ok (.getfield 46, 3) := by decide +kernel
theorem dX8_worst_172 : decode cX8_worst 172 = .ok (.iload_n 3, 1) := by decide +kernel
theorem dX8_worst_173 : decode cX8_worst 173 = .ok (.invokevirtual 252, 3) := by decide +kernel
theorem dX8_worst_176 : decode cX8_worst 176 = .ok (.ifCond .ne 6, 3) := by decide +kernel
theorem dX8_worst_179 : decode cX8_worst 179 = .ok (.goto 72, 3) := by decide +kernel
theorem dX8_worst_182 : decode cX8_worst 182 = .ok (.aload_n 0, 1) := by decide +kernel
theorem dX8_worst_183 : decode cX8_worst 183 = .ok (.getfield 50, 3) := by decide +kernel
theorem dX8_worst_186 : decode cX8_worst 186 = .ok (.aload_n 0, 1) := by decide +kernel
theorem dX8_worst_187 : decode cX8_worst 187 = .ok (.invokevirtual 246, 3) := by decide +kernel
theorem dX8_worst_190 : decode cX8_worst 190 = .ok (.laload, 1) := by decide +kernel
theorem dX8_worst_191 : decode cX8_worst 191 = .ok (.lstore 8, 2) := by decide +kernel
theorem dX8_worst_193 : decode cX8_worst 193 = .ok (.lload 8, 2) := by decide +kernel
theorem dX8_worst_195 : decode cX8_worst 195 = .ok (.lload 5, 2) := by decide +kernel
theorem dX8_worst_197 : decode cX8_worst 197 = .ok (.lcmp, 1) := by decide +kernel
theorem dX8_worst_198 : decode cX8_worst 198 = .ok (.ifCond .gt 18, 3) := by decide +kernel
theorem dX8_worst_201 : decode cX8_worst 201 = .ok (.lload 8, 2) := by decide +kernel
theorem dX8_worst_203 : decode cX8_worst 203 = .ok (.lload 5, 2) := by decide +kernel
theorem dX8_worst_205 : decode cX8_worst 205 = .ok (.lcmp, 1) := by decide +kernel
theorem dX8_worst_206 : decode cX8_worst 206 = .ok (.ifCond .ne 45, 3) := by decide +kernel
theorem dX8_worst_209 : decode cX8_worst 209 = .ok (.aload_n 0, 1) := by decide +kernel
theorem dX8_worst_210 : decode cX8_worst 210 = .ok (.invokevirtual 256, 3) := by decide +kernel
theorem dX8_worst_213 : decode cX8_worst 213 = .ok (.ifCond .eq 38, 3) := by decide +kernel
theorem dX8_worst_216 : decode cX8_worst 216 = .ok (.lload 8, 2) := by decide +kernel
theorem dX8_worst_218 : decode cX8_worst 218 = .ok (.lstore 5, 2) := by decide +kernel
theorem dX8_worst_220 : decode cX8_worst 220 = .ok (.iconst 0, 1) := by decide +kernel
theorem dX8_worst_221 : decode cX8_worst 221 = .ok (.istore 10, 2) := by decide +kernel
theorem dX8_worst_223 : decode cX8_worst 223 = .ok (.iload 10, 2) := by decide +kernel
theorem dX8_worst_225 : decode cX8_worst 225 = .ok (.aload_n 0, 1) := by decide +kernel
theorem dX8_worst_226 : decode cX8_worst 226 = .ok (.invokevirtual 84, 3) := by decide +kernel
theorem dX8_worst_229 : decode cX8_worst 229 = .ok (.if_icmp .ge 22, 3) := by decide +kernel
theorem dX8_worst_232 : decode cX8_worst 232 = .ok (.aload_n 0, 1) := by decide +kernel
theorem dX8_worst_233 : decode cX8_worst 233 = .ok (.getfield 43, 3) := by decide +kernel
theorem dX8_worst_236 : decode cX8_worst 236 = .ok (.iload 10, 2) := by decide +kernel
theorem dX8_worst_238 : decode cX8_worst 238 = .ok (.aload_n 0, 1) := by decide +kernel
theorem dX8_worst_239 : decode cX8_worst 239 = .ok (.iload 10, 2) := by decide +kernel
theorem dX8_worst_241 : decode cX8_worst 241 = .ok (.invokevirtual 259, 3) := by decide +kernel
theorem dX8_worst_244 : decode cX8_worst 244 = .ok (.iastore, 1) := by decide +kernel
theorem dX8_worst_245 : decode cX8_worst 245 = .ok (.iinc 10 1, 3) := by decide +kernel
theorem dX8_worst_248 : decode cX8_worst 248 = .ok (.goto (-25), 3) := by decide +kernel
theorem dX8_worst_251 : decode cX8_worst 251 = .ok (.iinc 7 1, 3) := by decide +kernel
theorem dX8_worst_254 : decode cX8_worst 254 = .ok (.goto (-115), 3) := by decide +kernel
theorem dX8_worst_257 : decode cX8_worst 257 = .ok (.aload_n 0, 1) := by decide +kernel
theorem dX8_worst_258 : decode cX8_worst 258 = .ok (.aload_n 0, 1) := by decide +kernel
theorem dX8_worst_259 : decode cX8_worst 259 = .ok (.invokevirtual 84, 3) := by decide +kernel
theorem dX8_worst_262 : decode cX8_worst 262 = .ok (.iconst 0, 1) := by decide +kernel
theorem dX8_worst_263 : decode cX8_worst 263 = .ok (.invokevirtual 188, 3) := by decide +kernel
theorem dX8_worst_266 : decode cX8_worst 266 = .ok (.iconst 0, 1) := by decide +kernel
theorem dX8_worst_267 : decode cX8_worst 267 = .ok (.istore 7, 2) := by decide +kernel
theorem dX8_worst_269 : decode cX8_worst 269 = .ok (.iload 7, 2) := by decide +kernel
theorem dX8_worst_271 : decode cX8_worst 271 = .ok (.aload_n 0, 1) := by decide +kernel
theorem dX8_worst_272 : decode cX8_worst 272 = .ok (.invokevirtual 84, 3) := by decide +kernel
theorem dX8_worst_275 : decode cX8_worst 275 = .ok (.if_icmp .ge 23, 3) := by decide +kernel
theorem dX8_worst_278 : decode cX8_worst 278 = .ok (.aload_n 0, 1) := by decide +kernel
theorem dX8_worst_279 : decode cX8_worst 279 = .ok (.getfield 40, 3) := by decide +kernel
theorem dX8_worst_282 : decode cX8_worst 282 = .ok (.iload 7, 2) := by decide +kernel
theorem dX8_worst_284 : decode cX8_worst 284 = .ok (.aload_n 0, 1) := by decide +kernel
theorem dX8_worst_285 : decode cX8_worst 285 = .ok (.getfield 43, 3) := by decide +kernel
theorem dX8_worst_288 : decode cX8_worst 288 = .ok (.iload 7, 2) := by decide +kernel
theorem dX8_worst_290 : decode cX8_worst 290 = .ok (.iaload, 1) := by decide +kernel
theorem dX8_worst_291 : decode cX8_worst 291 = .ok (.iastore, 1) := by decide +kernel
theorem dX8_worst_292 : decode cX8_worst 292 = .ok (.iinc 7 1, 3) := by decide +kernel
theorem dX8_worst_295 : decode cX8_worst 295 = .ok (.goto (-26), 3) := by decide +kernel
theorem dX8_worst_298 : decode cX8_worst 298 = .ok (.lload 5, 2) := by decide +kernel
theorem dX8_worst_300 : decode cX8_worst 300 = .ok (.lreturn, 1) := by decide +kernel
theorem dX8_isLikeRow_0 : decode cX8_isLikeRow 0 = .ok (.iconst 1, 1) := by decide +kernel
theorem dX8_isLikeRow_1 : decode cX8_isLikeRow 1 = .ok (.istore_n 3, 1) := by decide +kernel
theorem dX8_isLikeRow_2 : decode cX8_isLikeRow 2 = .ok (.iconst 0, 1) := by decide +kernel
theorem dX8_isLikeRow_3 : decode cX8_isLikeRow 3 = .ok (.istore 4, 2) := by decide +kernel
theorem dX8_isLikeRow_5 : decode cX8_isLikeRow 5 = .ok (.iload 4, 2) := by decide +kernel
theorem dX8_isLikeRow_7 : decode cX8_isLikeRow 7 = .ok (.iload_n 2, 1) := by decide +kernel
theorem dX8_isLikeRow_8 : decode cX8_isLikeRow 8 = .ok (.if_icmp .ge 33, 3) := by decide +kernel
theorem dX8_isLikeRow_11 : decode cX8_isLikeRow 11 = .ok (.iload_n 3, 1) := by decide +kernel
theorem dX8_isLikeRow_12 : decode cX8_isLikeRow 12 = .ok (.ifCond .eq 21, 3) := by decide +kernel
theorem dX8_isLikeRow_15 : decode cX8_isLikeRow 15 = .ok (.aload_n 1, 1) := by decide +kernel
theorem dX8_isLikeRow_16 : decode cX8_isLikeRow 16 = .ok (.iload 4, 2) := by decide +kernel
theorem dX8_isLikeRow_18 : decode cX8_isLikeRow 18 = .ok (.iaload, 1) := by decide +kernel
theorem dX8_isLikeRow_19 : decode cX8_isLikeRow 19 = .ok (.aload_n 0, 1) := by decide +kernel
theorem dX8_isLikeRow_20 : decode cX8_isLikeRow 20 = .ok (.getfield 40, 3) := by decide +kernel
theorem dX8_isLikeRow_23 : decode cX8_isLikeRow 23 = .ok (.iload 4, 2) := by decide +kernel
theorem dX8_isLikeRow_25 : decode cX8_isLikeRow 25 = .ok (.iaload, 1) := by decide +kernel
theorem dX8_isLikeRow_26 : decode cX8_isLikeRow 26 = .ok (.if_icmp .ne 7, 3) := by decide +kernel
theorem dX8_isLikeRow_29 : decode cX8_isLikeRow 29 = .ok (.iconst 1, 1) := by decide +kernel
theorem dX8_isLikeRow_30 : decode cX8_isLikeRow 30 = .ok (.goto 4, 3) := by decide +kernel
theorem dX8_isLikeRow_33 : decode cX8_isLikeRow 33 = .ok (.iconst 0, 1) := by decide +kernel
theorem dX8_isLikeRow_34 : decode cX8_isLikeRow 34 = .ok (.istore_n 3, 1) := by decide +kernel
theorem dX8_isLikeRow_35 : decode cX8_isLikeRow 35 = .ok (.iinc 4 1, 3) := by decide +kernel
theorem dX8_isLikeRow_38 : decode cX8_isLikeRow 38 = .ok (.goto (-33), 3) := by decide +kernel
theorem dX8_isLikeRow_41 : decode cX8_isLikeRow 41 = .ok (.iload_n 3, 1) := by decide +kernel
theorem dX8_isLikeRow_42 : decode cX8_isLikeRow 42 = .ok (.ireturn, 1) := by decide +kernel
theorem dX8_made_0 : decode cX8_made 0 = .ok (.iconst 0, 1) := by decide +kernel
theorem dX8_made_1 : decode cX8_made 1 = .ok (.istore_n 2, 1) := by decide +kernel
theorem dX8_made_2 : decode cX8_made 2 = .ok (.iconst 0, 1) := by decide +kernel
theorem dX8_made_3 : decode cX8_made 3 = .ok (.istore_n 3, 1) := by decide +kernel
theorem dX8_made_4 : decode cX8_made 4 = .ok (.iload_n 3, 1) := by decide +kernel
theorem dX8_made_5 : decode cX8_made 5 = .ok (.aload_n 0, 1) := by decide +kernel
theorem dX8_made_6 : decode cX8_made 6 = .ok (.invokevirtual 89, 3) := by decide +kernel
theorem dX8_made_9 : decode cX8_made 9 = .ok (.if_icmp .ge 25, 3) := by decide +kernel
theorem dX8_made_12 : decode cX8_made 12 = .ok (.iload_n 2, 1) := by decide +kernel
theorem dX8_made_13 : decode cX8_made 13 = .ok (.aload_n 0, 1) := by decide +kernel
theorem dX8_made_14 : decode cX8_made 14 = .ok (.getfield 40, 3) := by decide +kernel
theorem dX8_made_17 : decode cX8_made 17 = .ok (.iload_n 3, 1) := by decide +kernel
theorem dX8_made_18 : decode cX8_made 18 = .ok (.iaload, 1) := by decide +kernel
theorem dX8_made_19 : decode cX8_made 19 = .ok (.aload_n 0, 1) := by decide +kernel
theorem dX8_made_20 : decode cX8_made 20 = .ok (.iload_n 3, 1) := by decide +kernel
theorem dX8_made_21 : decode cX8_made 21 = .ok (.iload_n 1, 1) := by decide +kernel
theorem dX8_made_22 : decode cX8_made 22 = .ok (.invokevirtual 134, 3) := by decide +kernel
theorem dX8_made_25 : decode cX8_made 25 = .ok (.imul, 1) := by decide +kernel
theorem dX8_made_26 : decode cX8_made 26 = .ok (.iadd, 1) := by decide +kernel
theorem dX8_made_27 : decode cX8_made 27 = .ok (.istore_n 2, 1) := by decide +kernel
theorem dX8_made_28 : decode cX8_made 28 = .ok (.iinc 3 1, 3) := by decide +kernel
theorem dX8_made_31 : decode cX8_made 31 = .ok (.goto (-27), 3) := by decide +kernel
theorem dX8_made_34 : decode cX8_made 34 = .ok (.iload_n 2, 1) := by decide +kernel
theorem dX8_made_35 : decode cX8_made 35 = .ok (.aload_n 0, 1) := by decide +kernel
theorem dX8_made_36 : decode cX8_made 36 = .ok (.invokevirtual 96, 3) := by decide +kernel
theorem dX8_made_39 : decode cX8_made 39 = .ok (.irem, 1) := by decide +kernel
theorem dX8_made_40 : decode cX8_made 40 = .ok (.ireturn, 1) := by decide +kernel
theorem dX8_isAhead_0 : decode cX8_isAhead 0 = .ok (.iconst 0, 1) := by decide +kernel
theorem dX8_isAhead_1 : decode cX8_isAhead 1 = .ok (.istore_n 1, 1) := by decide +kernel
theorem dX8_isAhead_2 : decode cX8_isAhead 2 = .ok (.iload_n 1, 1) := by decide +kernel
theorem dX8_isAhead_3 : decode cX8_isAhead 3 = .ok (.aload_n 0, 1) := by decide +kernel
theorem dX8_isAhead_4 : decode cX8_isAhead 4 = .ok (.invokevirtual 84, 3) := by decide +kernel
theorem dX8_isAhead_7 : decode cX8_isAhead 7 = .ok (.if_icmp .ge 41, 3) := by decide +kernel
theorem dX8_isAhead_10 : decode cX8_isAhead 10 = .ok (.aload_n 0, 1) := by decide +kernel
theorem dX8_isAhead_11 : decode cX8_isAhead 11 = .ok (.iload_n 1, 1) := by decide +kernel
theorem dX8_isAhead_12 : decode cX8_isAhead 12 = .ok (.invokevirtual 259, 3) := by decide +kernel
theorem dX8_isAhead_15 : decode cX8_isAhead 15 = .ok (.istore_n 2, 1) := by decide +kernel
theorem dX8_isAhead_16 : decode cX8_isAhead 16 = .ok (.iload_n 2, 1) := by decide +kernel
theorem dX8_isAhead_17 : decode cX8_isAhead 17 = .ok (.aload_n 0, 1) := by decide +kernel
theorem dX8_isAhead_18 : decode cX8_isAhead 18 = .ok (.getfield 43, 3) := by decide +kernel
theorem dX8_isAhead_21 : decode cX8_isAhead 21 = .ok (.iload_n 1, 1) := by decide +kernel
theorem dX8_isAhead_22 : decode cX8_isAhead 22 = .ok (.iaload, 1) := by decide +kernel
theorem dX8_isAhead_23 : decode cX8_isAhead 23 = .ok (.if_icmp .eq 19, 3) := by decide +kernel
theorem dX8_isAhead_26 : decode cX8_isAhead 26 = .ok (.iload_n 2, 1) := by decide +kernel
theorem dX8_isAhead_27 : decode cX8_isAhead 27 = .ok (.aload_n 0, 1) := by decide +kernel
theorem dX8_isAhead_28 : decode cX8_isAhead 28 = .ok (.getfield 43, 3) := by decide +kernel
theorem dX8_isAhead_31 : decode cX8_isAhead 31 = .ok (.iload_n 1, 1) := by decide +kernel
theorem dX8_isAhead_32 : decode cX8_isAhead 32 = .ok (.iaload, 1) := by decide +kernel
theorem dX8_isAhead_33 : decode cX8_isAhead 33 = .ok (.if_icmp .ge 7, 3) := by decide +kernel
theorem dX8_isAhead_36 : decode cX8_isAhead 36 = .ok (.iconst 1, 1) := by decide +kernel
theorem dX8_isAhead_37 : decode cX8_isAhead 37 = .ok (.goto 4, 3) := by decide +kernel
theorem dX8_isAhead_40 : decode cX8_isAhead 40 = .ok (.iconst 0, 1) := by decide +kernel
theorem dX8_isAhead_41 : decode cX8_isAhead 41 = .ok (.ireturn, 1) := by decide +kernel
theorem dX8_isAhead_42 : decode cX8_isAhead 42 = .ok (.iinc 1 1, 3) := by decide +kernel
theorem dX8_isAhead_45 : decode cX8_isAhead 45 = .ok (.goto (-43), 3) := by decide +kernel
theorem dX8_isAhead_48 : decode cX8_isAhead 48 = .ok (.iconst 0, 1) := by decide +kernel
theorem dX8_isAhead_49 : decode cX8_isAhead 49 = .ok (.ireturn, 1) := by decide +kernel
theorem dX8_apply_0 : decode cX8_apply 0 = .ok (.aload_n 0, 1) := by decide +kernel
theorem dX8_apply_1 : decode cX8_apply 1 = .ok (.getfield 175, 3) := by decide +kernel
theorem dX8_apply_4 : decode cX8_apply 4 = .ok (.ifCond .eq 18, 3) := by decide +kernel
theorem dX8_apply_7 : decode cX8_apply 7 = .ok (.aload_n 0, 1) := by decide +kernel
theorem dX8_apply_8 : decode cX8_apply 8 = .ok (.getfield 172, 3) := by decide +kernel
theorem dX8_apply_11 : decode cX8_apply 11 = .ok (.aload_n 0, 1) := by decide +kernel
theorem dX8_apply_12 : decode cX8_apply 12 = .ok (.invokevirtual 89, 3) := by decide +kernel
theorem dX8_apply_15 : decode cX8_apply 15 = .ok (.if_icmp .ne 7, 3) := by decide +kernel
theorem dX8_apply_18 : decode cX8_apply 18 = .ok (.iconst 1, 1) := by decide +kernel
theorem dX8_apply_19 : decode cX8_apply 19 = .ok (.goto 4, 3) := by decide +kernel
theorem dX8_apply_22 : decode cX8_apply 22 = .ok (.iconst 0, 1) := by decide +kernel
theorem dX8_apply_23 : decode cX8_apply 23 = .ok (.istore_n 1, 1) := by decide +kernel
theorem dX8_apply_24 : decode cX8_apply 24 = .ok (.iconst 0, 1) := by decide +kernel
theorem dX8_apply_25 : decode cX8_apply 25 = .ok (.istore_n 2, 1) := by decide +kernel
theorem dX8_apply_26 : decode cX8_apply 26 = .ok (.iload_n 2, 1) := by decide +kernel
theorem dX8_apply_27 : decode cX8_apply 27 = .ok (.aload_n 0, 1) := by decide +kernel
theorem dX8_apply_28 : decode cX8_apply 28 = .ok (.invokevirtual 89, 3) := by decide +kernel
theorem dX8_apply_31 : decode cX8_apply 31 = .ok (.if_icmp .ge 49, 3) := by decide +kernel
theorem dX8_apply_34 : decode cX8_apply 34 = .ok (.iload_n 1, 1) := by decide +kernel
theorem dX8_apply_35 : decode cX8_apply 35 = .ok (.ifCond .eq 45, 3) := by decide +kernel
theorem dX8_apply_38 : decode cX8_apply 38 = .ok (.aload_n 0, 1) := by decide +kernel
theorem dX8_apply_39 : decode cX8_apply 39 = .ok (.getfield 40, 3) := by decide +kernel
theorem dX8_apply_42 : decode cX8_apply 42 = .ok (.iload_n 2, 1) := by decide +kernel
theorem dX8_apply_43 : decode cX8_apply 43 = .ok (.iaload, 1) := by decide +kernel
theorem dX8_apply_44 : decode cX8_apply 44 = .ok (.aload_n 0, 1) := by decide +kernel
theorem dX8_apply_45 : decode cX8_apply 45 = .ok (.invokevirtual 96, 3) := by decide +kernel
theorem dX8_apply_48 : decode cX8_apply 48 = .ok (.if_icmp .ge 24, 3) := by decide +kernel
theorem dX8_apply_51 : decode cX8_apply 51 = .ok (.aload_n 0, 1) := by decide +kernel
theorem dX8_apply_52 : decode cX8_apply 52 = .ok (.iload_n 2, 1) := by decide +kernel
theorem dX8_apply_53 : decode cX8_apply 53 = .ok (.invokevirtual 137, 3) := by decide +kernel
theorem dX8_apply_56 : decode cX8_apply 56 = .ok (.ifCond .eq 12, 3) := by decide +kernel
theorem dX8_apply_59 : decode cX8_apply 59 = .ok (.aload_n 0, 1) := by decide +kernel
theorem dX8_apply_60 : decode cX8_apply 60 = .ok (.getfield 40, 3) := by decide +kernel
theorem dX8_apply_63 : decode cX8_apply 63 = .ok (.iload_n 2, 1) := by decide +kernel
theorem dX8_apply_64 : decode cX8_apply 64 = .ok (.iaload, 1) := by decide +kernel
theorem dX8_apply_65 : decode cX8_apply 65 = .ok (.ifCond .ne 7, 3) := by decide +kernel
theorem dX8_apply_68 : decode cX8_apply 68 = .ok (.iconst 1, 1) := by decide +kernel
theorem dX8_apply_69 : decode cX8_apply 69 = .ok (.goto 4, 3) := by decide +kernel
theorem dX8_apply_72 : decode cX8_apply 72 = .ok (.iconst 0, 1) := by decide +kernel
theorem dX8_apply_73 : decode cX8_apply 73 = .ok (.istore_n 1, 1) := by decide +kernel
theorem dX8_apply_74 : decode cX8_apply 74 = .ok (.iinc 2 1, 3) := by decide +kernel
theorem dX8_apply_77 : decode cX8_apply 77 = .ok (.goto (-51), 3) := by decide +kernel
theorem dX8_apply_80 : decode cX8_apply 80 = .ok (.iload_n 1, 1) := by decide +kernel
theorem dX8_apply_81 : decode cX8_apply 81 = .ok (.ifCond .ne 5, 3) := by decide +kernel
theorem dX8_apply_84 : decode cX8_apply 84 = .ok (.iconst (-1), 1) := by decide +kernel
theorem dX8_apply_85 : decode cX8_apply 85 = .ok (.ireturn, 1) := by decide +kernel
theorem dX8_apply_86 : decode cX8_apply 86 = .ok (.aload_n 0, 1) := by decide +kernel
theorem dX8_apply_87 : decode cX8_apply 87 = .ok (.invokevirtual 99, 3) := by decide +kernel
theorem dX8_apply_90 : decode cX8_apply 90 = .ok (.iconst 0, 1) := by decide +kernel
theorem dX8_apply_91 : decode cX8_apply 91 = .ok (.istore_n 2, 1) := by decide +kernel
theorem dX8_apply_92 : decode cX8_apply 92 = .ok (.iconst 0, 1) := by decide +kernel
theorem dX8_apply_93 : decode cX8_apply 93 = .ok (.istore_n 3, 1) := by decide +kernel
theorem dX8_apply_94 : decode cX8_apply 94 = .ok (.iload_n 3, 1) := by decide +kernel
theorem dX8_apply_95 : decode cX8_apply 95 = .ok (.aload_n 0, 1) := by decide +kernel
theorem dX8_apply_96 : decode cX8_apply 96 = .ok (.invokevirtual 84, 3) := by decide +kernel
theorem dX8_apply_99 : decode cX8_apply 99 = .ok (.if_icmp .ge 61, 3) := by decide +kernel
theorem dX8_apply_102 : decode cX8_apply 102 = .ok (.aload_n 0, 1) := by decide +kernel
theorem dX8_apply_103 : decode cX8_apply 103 = .ok (.getfield 9, 3) := by decide +kernel
theorem dX8_apply_106 : decode cX8_apply 106 = .ok (.iconst 4, 1) := by decide +kernel
theorem dX8_apply_107 : decode cX8_apply 107 = .ok (.iload_n 3, 1) := by decide +kernel
theorem dX8_apply_108 : decode cX8_apply 108 = .ok (.iadd, 1) := by decide +kernel
theorem dX8_apply_109 : decode cX8_apply 109 = .ok (.iaload, 1) := by decide +kernel
theorem dX8_apply_110 : decode cX8_apply 110 = .ok (.aload_n 0, 1) := by decide +kernel
theorem dX8_apply_111 : decode cX8_apply 111 = .ok (.iload_n 3, 1) := by decide +kernel
theorem dX8_apply_112 : decode cX8_apply 112 = .ok (.invokevirtual 259, 3) := by decide +kernel
theorem dX8_apply_115 : decode cX8_apply 115 = .ok (.iadd, 1) := by decide +kernel
theorem dX8_apply_116 : decode cX8_apply 116 = .ok (.aload_n 0, 1) := by decide +kernel
theorem dX8_apply_117 : decode cX8_apply 117 = .ok (.invokevirtual 96, 3) := by decide +kernel
theorem dX8_apply_120 : decode cX8_apply 120 = .ok (.irem, 1) := by decide +kernel
theorem dX8_apply_121 : decode cX8_apply 121 = .ok (.istore 4, 2) := by decide +kernel
theorem dX8_apply_123 : decode cX8_apply 123 = .ok (.iload_n 2, 1) := by decide +kernel
theorem dX8_apply_124 : decode cX8_apply 124 = .ok (.iload 4, 2) := by decide +kernel
theorem dX8_apply_126 : decode cX8_apply 126 = .ok (.aload_n 0, 1) := by decide +kernel
theorem dX8_apply_127 : decode cX8_apply 127 = .ok (.getfield 9, 3) := by decide +kernel
theorem dX8_apply_130 : decode cX8_apply 130 = .ok (.iconst 4, 1) := by decide +kernel
theorem dX8_apply_131 : decode cX8_apply 131 = .ok (.iload_n 3, 1) := by decide +kernel
theorem dX8_apply_132 : decode cX8_apply 132 = .ok (.iadd, 1) := by decide +kernel
theorem dX8_apply_133 : decode cX8_apply 133 = .ok (.iaload, 1) := by decide +kernel
theorem dX8_apply_134 : decode cX8_apply 134 = .ok (.if_icmp .eq 7, 3) := by decide +kernel
theorem dX8_apply_137 : decode cX8_apply 137 = .ok (.iconst 1, 1) := by decide +kernel
theorem dX8_apply_138 : decode cX8_apply 138 = .ok (.goto 4, 3) := by decide +kernel
theorem dX8_apply_141 : decode cX8_apply 141 = .ok (.iconst 0, 1) := by decide +kernel
theorem dX8_apply_142 : decode cX8_apply 142 = .ok (.iadd, 1) := by decide +kernel
theorem dX8_apply_143 : decode cX8_apply 143 = .ok (.istore_n 2, 1) := by decide +kernel
theorem dX8_apply_144 : decode cX8_apply 144 = .ok (.aload_n 0, 1) := by decide +kernel
theorem dX8_apply_145 : decode cX8_apply 145 = .ok (.getfield 9, 3) := by decide +kernel
theorem dX8_apply_148 : decode cX8_apply 148 = .ok (.iconst 4, 1) := by decide +kernel
theorem dX8_apply_149 : decode cX8_apply 149 = .ok (.iload_n 3, 1) := by decide +kernel
theorem dX8_apply_150 : decode cX8_apply 150 = .ok (.iadd, 1) := by decide +kernel
theorem dX8_apply_151 : decode cX8_apply 151 = .ok (.iload 4, 2) := by decide +kernel
theorem dX8_apply_153 : decode cX8_apply 153 = .ok (.iastore, 1) := by decide +kernel
theorem dX8_apply_154 : decode cX8_apply 154 = .ok (.iinc 3 1, 3) := by decide +kernel
theorem dX8_apply_157 : decode cX8_apply 157 = .ok (.goto (-63), 3) := by decide +kernel
theorem dX8_apply_160 : decode cX8_apply 160 = .ok (.iload_n 2, 1) := by decide +kernel
theorem dX8_apply_161 : decode cX8_apply 161 = .ok (.ireturn, 1) := by decide +kernel
theorem dX8_tell_0 : decode cX8_tell 0 = .ok (.aload_n 0, 1) := by decide +kernel
theorem dX8_tell_1 : decode cX8_tell 1 = .ok (.getfield 262, 3) := by decide +kernel
theorem dX8_tell_4 : decode cX8_tell 4 = .ok (.bipush 36, 2) := by decide +kernel
theorem dX8_tell_6 : decode cX8_tell 6 = .ok (.if_icmp .eq 15, 3) := by decide +kernel
theorem dX8_tell_9 : decode cX8_tell 9 = .ok (.iload_n 1, 1) := by decide +kernel
theorem dX8_tell_10 : decode cX8_tell 10 = .ok (.i2l, 1) := by decide +kernel
theorem dX8_tell_11 : decode cX8_tell 11 = .ok (.lconst 0, 1) := by decide +kernel
theorem dX8_tell_12 : decode cX8_tell 12 = .ok (.ldc2_w 265, 3) := by decide +kernel
theorem dX8_tell_15 : decode cX8_tell 15 = .ok (.invokestatic 69, 3) := by decide +kernel
theorem dX8_tell_18 : decode cX8_tell 18 = .ok (.ifCond .ne 5, 3) := by decide +kernel
theorem dX8_tell_21 : decode cX8_tell 21 = .ok (.iconst (-1), 1) := by decide +kernel
theorem dX8_tell_22 : decode cX8_tell 22 = .ok (.ireturn, 1) := by decide +kernel
theorem dX8_tell_23 : decode cX8_tell 23 = .ok (.aload_n 0, 1) := by decide +kernel
theorem dX8_tell_24 : decode cX8_tell 24 = .ok (.getfield 53, 3) := by decide +kernel
theorem dX8_tell_27 : decode cX8_tell 27 = .ok (.aload_n 0, 1) := by decide +kernel
theorem dX8_tell_28 : decode cX8_tell 28 = .ok (.getfield 262, 3) := by decide +kernel
theorem dX8_tell_31 : decode cX8_tell 31 = .ok (.iload_n 1, 1) := by decide +kernel
theorem dX8_tell_32 : decode cX8_tell 32 = .ok (.iastore, 1) := by decide +kernel
theorem dX8_tell_33 : decode cX8_tell 33 = .ok (.aload_n 0, 1) := by decide +kernel
theorem dX8_tell_34 : decode cX8_tell 34 = .ok (.dup, 1) := by decide +kernel
theorem dX8_tell_35 : decode cX8_tell 35 = .ok (.getfield 262, 3) := by decide +kernel
theorem dX8_tell_38 : decode cX8_tell 38 = .ok (.iconst 1, 1) := by decide +kernel
theorem dX8_tell_39 : decode cX8_tell 39 = .ok (.iadd, 1) := by decide +kernel
theorem dX8_tell_40 : decode cX8_tell 40 = .ok (.putfield 262, 3) := by decide +kernel
theorem dX8_tell_43 : decode cX8_tell 43 = .ok (.aload_n 0, 1) := by decide +kernel
theorem dX8_tell_44 : decode cX8_tell 44 = .ok (.getfield 262, 3) := by decide +kernel
theorem dX8_tell_47 : decode cX8_tell 47 = .ok (.ireturn, 1) := by decide +kernel
theorem dX8_check_0 : decode cX8_check 0 = .ok (.iload_n 1, 1) := by decide +kernel
theorem dX8_check_1 : decode cX8_check 1 = .ok (.i2l, 1) := by decide +kernel
theorem dX8_check_2 : decode cX8_check 2 = .ok (.lconst 0, 1) := by decide +kernel
theorem dX8_check_3 : decode cX8_check 3 = .ok (.lconst 1, 1) := by decide +kernel
theorem dX8_check_4 : decode cX8_check 4 = .ok (.invokestatic 69, 3) := by decide +kernel
theorem dX8_check_7 : decode cX8_check 7 = .ok (.ifCond .ne 6, 3) := by decide +kernel
theorem dX8_check_10 : decode cX8_check 10 = .ok (.bipush (-2), 2) := by decide +kernel
theorem dX8_check_12 : decode cX8_check 12 = .ok (.ireturn, 1) := by decide +kernel
theorem dX8_check_13 : decode cX8_check 13 = .ok (.aload_n 0, 1) := by decide +kernel
theorem dX8_check_14 : decode cX8_check 14 = .ok (.getfield 262, 3) := by decide +kernel
theorem dX8_check_17 : decode cX8_check 17 = .ok (.iload_n 1, 1) := by decide +kernel
theorem dX8_check_18 : decode cX8_check 18 = .ok (.ifCond .ne 10, 3) := by decide +kernel
theorem dX8_check_21 : decode cX8_check 21 = .ok (.aload_n 0, 1) := by decide +kernel
theorem dX8_check_22 : decode cX8_check 22 = .ok (.invokevirtual 89, 3) := by decide +kernel
theorem dX8_check_25 : decode cX8_check 25 = .ok (.goto 7, 3) := by decide +kernel
theorem dX8_check_28 : decode cX8_check 28 = .ok (.aload_n 0, 1) := by decide +kernel
theorem dX8_check_29 : decode cX8_check 29 = .ok (.invokevirtual 84, 3) := by decide +kernel
theorem dX8_check_32 : decode cX8_check 32 = .ok (.if_icmp .ne 7, 3) := by decide +kernel
theorem dX8_check_35 : decode cX8_check 35 = .ok (.iconst 1, 1) := by decide +kernel
theorem dX8_check_36 : decode cX8_check 36 = .ok (.goto 4, 3) := by decide +kernel
theorem dX8_check_39 : decode cX8_check 39 = .ok (.iconst 0, 1) := by decide +kernel
theorem dX8_check_40 : decode cX8_check 40 = .ok (.istore_n 2, 1) := by decide +kernel
theorem dX8_check_41 : decode cX8_check 41 = .ok (.iconst 0, 1) := by decide +kernel
theorem dX8_check_42 : decode cX8_check 42 = .ok (.istore_n 3, 1) := by decide +kernel
theorem dX8_check_43 : decode cX8_check 43 = .ok (.iload_n 3, 1) := by decide +kernel
theorem dX8_check_44 : decode cX8_check 44 = .ok (.aload_n 0, 1) := by decide +kernel
theorem dX8_check_45 : decode cX8_check 45 = .ok (.getfield 262, 3) := by decide +kernel
theorem dX8_check_48 : decode cX8_check 48 = .ok (.if_icmp .ge 32, 3) := by decide +kernel
theorem dX8_check_51 : decode cX8_check 51 = .ok (.iload_n 2, 1) := by decide +kernel
theorem dX8_check_52 : decode cX8_check 52 = .ok (.ifCond .eq 20, 3) := by decide +kernel
theorem dX8_check_55 : decode cX8_check 55 = .ok (.aload_n 0, 1) := by decide +kernel
theorem dX8_check_56 : decode cX8_check 56 = .ok (.getfield 53, 3) := by decide +kernel
theorem dX8_check_59 : decode cX8_check 59 = .ok (.iload_n 3, 1) := by decide +kernel
theorem dX8_check_60 : decode cX8_check 60 = .ok (.iaload, 1) := by decide +kernel
theorem dX8_check_61 : decode cX8_check 61 = .ok (.aload_n 0, 1) := by decide +kernel
theorem dX8_check_62 : decode cX8_check 62 = .ok (.invokevirtual 96, 3) := by decide +kernel
theorem dX8_check_65 : decode cX8_check 65 = .ok (.if_icmp .ge 7, 3) := by decide +kernel
theorem dX8_check_68 : decode cX8_check 68 = .ok (.iconst 1, 1) := by decide +kernel
theorem dX8_check_69 : decode cX8_check 69 = .ok (.goto 4, 3) := by decide +kernel
theorem dX8_check_72 : decode cX8_check 72 = .ok (.iconst 0, 1) := by decide +kernel
theorem dX8_check_73 : decode cX8_check 73 = .ok (.istore_n 2, 1) := by decide +kernel
theorem dX8_check_74 : decode cX8_check 74 = .ok (.iinc 3 1, 3) := by decide +kernel
theorem dX8_check_77 : decode cX8_check 77 = .ok (.goto (-34), 3) := by decide +kernel
theorem dX8_check_80 : decode cX8_check 80 = .ok (.aload_n 0, 1) := by decide +kernel
theorem dX8_check_81 : decode cX8_check 81 = .ok (.iconst 0, 1) := by decide +kernel
theorem dX8_check_82 : decode cX8_check 82 = .ok (.putfield 262, 3) := by decide +kernel
theorem dX8_check_85 : decode cX8_check 85 = .ok (.iload_n 2, 1) := by decide +kernel
theorem dX8_check_86 : decode cX8_check 86 = .ok (.ifCond .ne 8, 3) := by decide +kernel
theorem dX8_check_89 : decode cX8_check 89 = .ok (.bipush 100, 2) := by decide +kernel
theorem dX8_check_91 : decode cX8_check 91 = .ok (.goto 18, 3) := by decide +kernel
theorem dX8_check_94 : decode cX8_check 94 = .ok (.iload_n 1, 1) := by decide +kernel
theorem dX8_check_95 : decode cX8_check 95 = .ok (.ifCond .ne 10, 3) := by decide +kernel
theorem dX8_check_98 : decode cX8_check 98 = .ok (.aload_n 0, 1) := by decide +kernel
theorem dX8_check_99 : decode cX8_check 99 = .ok (.invokevirtual 267, 3) := by decide +kernel
theorem dX8_check_102 : decode cX8_check 102 = .ok (.goto 7, 3) := by decide +kernel
theorem dX8_check_105 : decode cX8_check 105 = .ok (.aload_n 0, 1) := by decide +kernel
theorem dX8_check_106 : decode cX8_check 106 = .ok (.invokevirtual 270, 3) := by decide +kernel
theorem dX8_check_109 : decode cX8_check 109 = .ok (.ireturn, 1) := by decide +kernel
theorem dX8_pushingWrong_0 : decode cX8_pushingWrong 0 = .ok (.iconst 0, 1) := by decide +kernel
theorem dX8_pushingWrong_1 : decode cX8_pushingWrong 1 = .ok (.istore_n 1, 1) := by decide +kernel
theorem dX8_pushingWrong_2 : decode cX8_pushingWrong 2 = .ok (.iload_n 1, 1) := by decide +kernel
theorem dX8_pushingWrong_3 : decode cX8_pushingWrong 3 = .ok (.aload_n 0, 1) := by decide +kernel
theorem dX8_pushingWrong_4 : decode cX8_pushingWrong 4 = .ok (.invokevirtual 89, 3) := by decide +kernel
theorem dX8_pushingWrong_7 : decode cX8_pushingWrong 7 = .ok (.if_icmp .ge 32, 3) := by decide +kernel
theorem dX8_pushingWrong_10 : decode cX8_pushingWrong 10 = .ok (.aload_n 0, 1) := by decide +kernel
theorem dX8_pushingWrong_11 : decode cX8_pushingWrong 11 = .ok (.iload_n 1, 1) := by decide +kernel
theorem dX8_pushingWrong_12 : decode cX8_pushingWrong 12 = .ok (.invokevirtual 137, 3) := by decide +kernel
theorem dX8_pushingWrong_15 : decode cX8_pushingWrong 15 = .ok (.ifCond .eq 18, 3) := by decide +kernel
theorem dX8_pushingWrong_18 : decode cX8_pushingWrong 18 = .ok (.aload_n 0, 1) := by decide +kernel
theorem dX8_pushingWrong_19 : decode cX8_pushingWrong 19 = .ok (.getfield 53, 3) := by decide +kernel
theorem dX8_pushingWrong_22 : decode cX8_pushingWrong 22 = .ok (.iload_n 1, 1) := by decide +kernel
theorem dX8_pushingWrong_23 : decode cX8_pushingWrong 23 = .ok (.iaload, 1) := by decide +kernel
theorem dX8_pushingWrong_24 : decode cX8_pushingWrong 24 = .ok (.ifCond .eq 9, 3) := by decide +kernel
theorem dX8_pushingWrong_27 : decode cX8_pushingWrong 27 = .ok (.sipush 200, 3) := by decide +kernel
theorem dX8_pushingWrong_30 : decode cX8_pushingWrong 30 = .ok (.iload_n 1, 1) := by decide +kernel
theorem dX8_pushingWrong_31 : decode cX8_pushingWrong 31 = .ok (.iadd, 1) := by decide +kernel
theorem dX8_pushingWrong_32 : decode cX8_pushingWrong 32 = .ok (.ireturn, 1) := by decide +kernel
theorem dX8_pushingWrong_33 : decode cX8_pushingWrong 33 = .ok (.iinc 1 1, 3) := by decide +kernel
theorem dX8_pushingWrong_36 : decode cX8_pushingWrong 36 = .ok (.goto (-34), 3) := by decide +kernel
theorem dX8_pushingWrong_39 : decode cX8_pushingWrong 39 = .ok (.iconst 0, 1) := by decide +kernel
theorem dX8_pushingWrong_40 : decode cX8_pushingWrong 40 = .ok (.istore_n 1, 1) := by decide +kernel
theorem dX8_pushingWrong_41 : decode cX8_pushingWrong 41 = .ok (.iload_n 1, 1) := by decide +kernel
theorem dX8_pushingWrong_42 : decode cX8_pushingWrong 42 = .ok (.aload_n 0, 1) := by decide +kernel
theorem dX8_pushingWrong_43 : decode cX8_pushingWrong 43 = .ok (.invokevirtual 84, 3) := by decide +kernel
theorem dX8_pushingWrong_46 : decode cX8_pushingWrong 46 = .ok (.if_icmp .ge 66, 3) := by decide +kernel
theorem dX8_pushingWrong_49 : decode cX8_pushingWrong 49 = .ok (.iconst 0, 1) := by decide +kernel
theorem dX8_pushingWrong_50 : decode cX8_pushingWrong 50 = .ok (.istore_n 2, 1) := by decide +kernel
theorem dX8_pushingWrong_51 : decode cX8_pushingWrong 51 = .ok (.iconst 0, 1) := by decide +kernel
theorem dX8_pushingWrong_52 : decode cX8_pushingWrong 52 = .ok (.istore_n 3, 1) := by decide +kernel
theorem dX8_pushingWrong_53 : decode cX8_pushingWrong 53 = .ok (.iload_n 3, 1) := by decide +kernel
theorem dX8_pushingWrong_54 : decode cX8_pushingWrong 54 = .ok (.aload_n 0, 1) := by decide +kernel
theorem dX8_pushingWrong_55 : decode cX8_pushingWrong 55 = .ok (.invokevirtual 89, 3) := by decide +kernel
theorem dX8_pushingWrong_58 : decode cX8_pushingWrong 58 = .ok (.if_icmp .ge 25, 3) := by decide +kernel
theorem dX8_pushingWrong_61 : decode cX8_pushingWrong 61 = .ok (.iload_n 2, 1) := by decide +kernel
theorem dX8_pushingWrong_62 : decode cX8_pushingWrong 62 = .ok (.aload_n 0, 1) := by decide +kernel
theorem dX8_pushingWrong_63 : decode cX8_pushingWrong 63 = .ok (.getfield 53, 3) := by decide +kernel
theorem dX8_pushingWrong_66 : decode cX8_pushingWrong 66 = .ok (.iload_n 3, 1) := by decide +kernel
theorem dX8_pushingWrong_67 : decode cX8_pushingWrong 67 = .ok (.iaload, 1) := by decide +kernel
theorem dX8_pushingWrong_68 : decode cX8_pushingWrong 68 = .ok (.aload_n 0, 1) := by decide +kernel
theorem dX8_pushingWrong_69 : decode cX8_pushingWrong 69 = .ok (.iload_n 3, 1) := by decide +kernel
theorem dX8_pushingWrong_70 : decode cX8_pushingWrong 70 = .ok (.iload_n 1, 1) := by decide +kernel
theorem dX8_pushingWrong_71 : decode cX8_pushingWrong 71 = .ok (.invokevirtual 134, 3) := by decide +kernel
theorem dX8_pushingWrong_74 : decode cX8_pushingWrong 74 = .ok (.imul, 1) := by decide +kernel
theorem dX8_pushingWrong_75 : decode cX8_pushingWrong 75 = .ok (.iadd, 1) := by decide +kernel
theorem dX8_pushingWrong_76 : decode cX8_pushingWrong 76 = .ok (.istore_n 2, 1) := by decide +kernel
theorem dX8_pushingWrong_77 : decode cX8_pushingWrong 77 = .ok (.iinc 3 1, 3) := by decide +kernel
theorem dX8_pushingWrong_80 : decode cX8_pushingWrong 80 = .ok (.goto (-27), 3) := by decide +kernel
theorem dX8_pushingWrong_83 : decode cX8_pushingWrong 83 = .ok (.iload_n 2, 1) := by decide +kernel
theorem dX8_pushingWrong_84 : decode cX8_pushingWrong 84 = .ok (.aload_n 0, 1) := by decide +kernel
theorem dX8_pushingWrong_85 : decode cX8_pushingWrong 85 = .ok (.invokevirtual 96, 3) := by decide +kernel
theorem dX8_pushingWrong_88 : decode cX8_pushingWrong 88 = .ok (.irem, 1) := by decide +kernel
theorem dX8_pushingWrong_89 : decode cX8_pushingWrong 89 = .ok (.aload_n 0, 1) := by decide +kernel
theorem dX8_pushingWrong_90 : decode cX8_pushingWrong 90 = .ok (.getfield 9, 3) := by decide +kernel
theorem dX8_pushingWrong_93 : decode cX8_pushingWrong 93 = .ok (.iconst 4, 1) := by decide +kernel
theorem dX8_pushingWrong_94 : decode cX8_pushingWrong 94 = .ok (.iload_n 1, 1) := by decide +kernel
theorem dX8_pushingWrong_95 : decode cX8_pushingWrong 95 = .ok (.iadd, 1) := by decide +kernel
theorem dX8_pushingWrong_96 : decode cX8_pushingWrong 96 = .ok (.iaload, 1) := by decide +kernel
theorem dX8_pushingWrong_97 : decode cX8_pushingWrong 97 = .ok (.if_icmp .eq 9, 3) := by decide +kernel
theorem dX8_pushingWrong_100 : decode cX8_pushingWrong 100 = .ok (.sipush 300, 3) := by decide +kernel
theorem dX8_pushingWrong_103 : decode cX8_pushingWrong 103 = .ok (.iload_n 1, 1) := by decide +kernel
theorem dX8_pushingWrong_104 : decode cX8_pushingWrong 104 = .ok (.iadd, 1) := by decide +kernel
theorem dX8_pushingWrong_105 : decode cX8_pushingWrong 105 = .ok (.ireturn, 1) := by decide +kernel
theorem dX8_pushingWrong_106 : decode cX8_pushingWrong 106 = .ok (.iinc 1 1, 3) := by decide +kernel
theorem dX8_pushingWrong_109 : decode cX8_pushingWrong 109 = .ok (.goto (-68), 3) := by decide +kernel
theorem dX8_pushingWrong_112 : decode cX8_pushingWrong 112 = .ok (.iconst (-1), 1) := by decide +kernel
theorem dX8_pushingWrong_113 : decode cX8_pushingWrong 113 = .ok (.ireturn, 1) := by decide +kernel
theorem dX8_weightsWrong_0 : decode cX8_weightsWrong 0 = .ok (.iconst 0, 1) := by decide +kernel
theorem dX8_weightsWrong_1 : decode cX8_weightsWrong 1 = .ok (.istore_n 1, 1) := by decide +kernel
theorem dX8_weightsWrong_2 : decode cX8_weightsWrong 2 = .ok (.iload_n 1, 1) := by decide +kernel
theorem dX8_weightsWrong_3 : decode cX8_weightsWrong 3 = .ok (.aload_n 0, 1) := by decide +kernel
theorem dX8_weightsWrong_4 : decode cX8_weightsWrong 4 = .ok (.invokevirtual 89, 3) := by decide +kernel
theorem dX8_weightsWrong_7 : decode cX8_weightsWrong 7 = .ok (.if_icmp .ge 66, 3) := by decide +kernel
theorem dX8_weightsWrong_10 : decode cX8_weightsWrong 10 = .ok (.iconst 0, 1) := by decide +kernel
theorem dX8_weightsWrong_11 : decode cX8_weightsWrong 11 = .ok (.istore_n 2, 1) := by decide +kernel
theorem dX8_weightsWrong_12 : decode cX8_weightsWrong 12 = .ok (.iconst 0, 1) := by decide +kernel
theorem dX8_weightsWrong_13 : decode cX8_weightsWrong 13 = .ok (.istore_n 3, 1) := by decide +kernel
theorem dX8_weightsWrong_14 : decode cX8_weightsWrong 14 = .ok (.iload_n 3, 1) := by decide +kernel
theorem dX8_weightsWrong_15 : decode cX8_weightsWrong 15 = .ok (.aload_n 0, 1) := by decide +kernel
theorem dX8_weightsWrong_16 : decode cX8_weightsWrong 16 = .ok (.invokevirtual 84, 3) := by decide +kernel
theorem dX8_weightsWrong_19 : decode cX8_weightsWrong 19 = .ok (.if_icmp .ge 33, 3) := by decide +kernel
theorem dX8_weightsWrong_22 : decode cX8_weightsWrong 22 = .ok (.aload_n 0, 1) := by decide +kernel
theorem dX8_weightsWrong_23 : decode cX8_weightsWrong 23 = .ok (.iload_n 1, 1) := by decide +kernel
theorem dX8_weightsWrong_24 : decode cX8_weightsWrong 24 = .ok (.invokevirtual 137, 3) := by decide +kernel
theorem dX8_weightsWrong_27 : decode cX8_weightsWrong 27 = .ok (.ifCond .ne 25, 3) := by decide +kernel
theorem dX8_weightsWrong_30 : decode cX8_weightsWrong 30 = .ok (.iload_n 2, 1) := by decide +kernel
theorem dX8_weightsWrong_31 : decode cX8_weightsWrong 31 = .ok (.aload_n 0, 1) := by decide +kernel
theorem dX8_weightsWrong_32 : decode cX8_weightsWrong 32 = .ok (.getfield 53, 3) := by decide +kernel
theorem dX8_weightsWrong_35 : decode cX8_weightsWrong 35 = .ok (.iload_n 3, 1) := by decide +kernel
theorem dX8_weightsWrong_36 : decode cX8_weightsWrong 36 = .ok (.iaload, 1) := by decide +kernel
theorem dX8_weightsWrong_37 : decode cX8_weightsWrong 37 = .ok (.aload_n 0, 1) := by decide +kernel
theorem dX8_weightsWrong_38 : decode cX8_weightsWrong 38 = .ok (.iload_n 1, 1) := by decide +kernel
theorem dX8_weightsWrong_39 : decode cX8_weightsWrong 39 = .ok (.iload_n 3, 1) := by decide +kernel
theorem dX8_weightsWrong_40 : decode cX8_weightsWrong 40 = .ok (.invokevirtual 134, 3) := by decide +kernel
theorem dX8_weightsWrong_43 : decode cX8_weightsWrong 43 = .ok (.imul, 1) := by decide +kernel
theorem dX8_weightsWrong_44 : decode cX8_weightsWrong 44 = .ok (.iadd, 1) := by decide +kernel
theorem dX8_weightsWrong_45 : decode cX8_weightsWrong 45 = .ok (.istore_n 2, 1) := by decide +kernel
theorem dX8_weightsWrong_46 : decode cX8_weightsWrong 46 = .ok (.iinc 3 1, 3) := by decide +kernel
theorem dX8_weightsWrong_49 : decode cX8_weightsWrong 49 = .ok (.goto (-35), 3) := by decide +kernel
theorem dX8_weightsWrong_52 : decode cX8_weightsWrong 52 = .ok (.iload_n 2, 1) := by decide +kernel
theorem dX8_weightsWrong_53 : decode cX8_weightsWrong 53 = .ok (.aload_n 0, 1) := by decide +kernel
theorem dX8_weightsWrong_54 : decode cX8_weightsWrong 54 = .ok (.invokevirtual 96, 3) := by decide +kernel
theorem dX8_weightsWrong_57 : decode cX8_weightsWrong 57 = .ok (.irem, 1) := by decide +kernel
theorem dX8_weightsWrong_58 : decode cX8_weightsWrong 58 = .ok (.ifCond .eq 9, 3) := by decide +kernel
theorem dX8_weightsWrong_61 : decode cX8_weightsWrong 61 = .ok (.sipush 200, 3) := by decide +kernel
theorem dX8_weightsWrong_64 : decode cX8_weightsWrong 64 = .ok (.iload_n 1, 1) := by decide +kernel
theorem dX8_weightsWrong_65 : decode cX8_weightsWrong 65 = .ok (.iadd, 1) := by decide +kernel
theorem dX8_weightsWrong_66 : decode cX8_weightsWrong 66 = .ok (.ireturn, 1) := by decide +kernel
theorem dX8_weightsWrong_67 : decode cX8_weightsWrong 67 = .ok (.iinc 1 1, 3) := by decide +kernel
theorem dX8_weightsWrong_70 : decode cX8_weightsWrong 70 = .ok (.goto (-68), 3) := by decide +kernel
theorem dX8_weightsWrong_73 : decode cX8_weightsWrong 73 = .ok (.iconst 0, 1) := by decide +kernel
theorem dX8_weightsWrong_74 : decode cX8_weightsWrong 74 = .ok (.istore_n 1, 1) := by decide +kernel
theorem dX8_weightsWrong_75 : decode cX8_weightsWrong 75 = .ok (.iconst 0, 1) := by decide +kernel
theorem dX8_weightsWrong_76 : decode cX8_weightsWrong 76 = .ok (.istore_n 2, 1) := by decide +kernel
theorem dX8_weightsWrong_77 : decode cX8_weightsWrong 77 = .ok (.iload_n 2, 1) := by decide +kernel
theorem dX8_weightsWrong_78 : decode cX8_weightsWrong 78 = .ok (.aload_n 0, 1) := by decide +kernel
theorem dX8_weightsWrong_79 : decode cX8_weightsWrong 79 = .ok (.invokevirtual 84, 3) := by decide +kernel
theorem dX8_weightsWrong_82 : decode cX8_weightsWrong 82 = .ok (.if_icmp .ge 27, 3) := by decide +kernel
theorem dX8_weightsWrong_85 : decode cX8_weightsWrong 85 = .ok (.iload_n 1, 1) := by decide +kernel
theorem dX8_weightsWrong_86 : decode cX8_weightsWrong 86 = .ok (.aload_n 0, 1) := by decide +kernel
theorem dX8_weightsWrong_87 : decode cX8_weightsWrong 87 = .ok (.getfield 53, 3) := by decide +kernel
theorem dX8_weightsWrong_90 : decode cX8_weightsWrong 90 = .ok (.iload_n 2, 1) := by decide +kernel
theorem dX8_weightsWrong_91 : decode cX8_weightsWrong 91 = .ok (.iaload, 1) := by decide +kernel
theorem dX8_weightsWrong_92 : decode cX8_weightsWrong 92 = .ok (.aload_n 0, 1) := by decide +kernel
theorem dX8_weightsWrong_93 : decode cX8_weightsWrong 93 = .ok (.getfield 9, 3) := by decide +kernel
theorem dX8_weightsWrong_96 : decode cX8_weightsWrong 96 = .ok (.iconst 4, 1) := by decide +kernel
theorem dX8_weightsWrong_97 : decode cX8_weightsWrong 97 = .ok (.iload_n 2, 1) := by decide +kernel
theorem dX8_weightsWrong_98 : decode cX8_weightsWrong 98 = .ok (.iadd, 1) := by decide +kernel
theorem dX8_weightsWrong_99 : decode cX8_weightsWrong 99 = .ok (.iaload, 1) := by decide +kernel
theorem dX8_weightsWrong_100 : decode cX8_weightsWrong 100 = .ok (.imul, 1) := by decide +kernel
theorem dX8_weightsWrong_101 : decode cX8_weightsWrong 101 = .ok (.iadd, 1) := by decide +kernel
theorem dX8_weightsWrong_102 : decode cX8_weightsWrong 102 = .ok (.istore_n 1, 1) := by decide +kernel
theorem dX8_weightsWrong_103 : decode cX8_weightsWrong 103 = .ok (.iinc 2 1, 3) := by decide +kernel
theorem dX8_weightsWrong_106 : decode cX8_weightsWrong 106 = .ok (.goto (-29), 3) := by decide +kernel
theorem dX8_weightsWrong_109 : decode cX8_weightsWrong 109 = .ok (.iload_n 1, 1) := by decide +kernel
theorem dX8_weightsWrong_110 : decode cX8_weightsWrong 110 = .ok (.aload_n 0, 1) := by decide +kernel
theorem dX8_weightsWrong_111 : decode cX8_weightsWrong 111 = .ok (.invokevirtual 96, 3) := by decide +kernel
theorem dX8_weightsWrong_114 : decode cX8_weightsWrong 114 = .ok (.irem, 1) := by decide +kernel
theorem dX8_weightsWrong_115 : decode cX8_weightsWrong 115 = .ok (.ifCond .eq 7, 3) := by decide +kernel
theorem dX8_weightsWrong_118 : decode cX8_weightsWrong 118 = .ok (.iconst (-1), 1) := by decide +kernel
theorem dX8_weightsWrong_119 : decode cX8_weightsWrong 119 = .ok (.goto 6, 3) := by decide +kernel
theorem dX8_weightsWrong_122 : decode cX8_weightsWrong 122 = .ok (.sipush 300, 3) := by decide +kernel
theorem dX8_weightsWrong_125 : decode cX8_weightsWrong 125 = .ok (.ireturn, 1) := by decide +kernel
theorem dJ9_floorMod_7cf53_0 : decode cJ9_floorMod_7cf53 0 = .ok (.iload_n 0, 1) := by decide +kernel
theorem dJ9_floorMod_7cf53_1 : decode cJ9_floorMod_7cf53 1 = .ok (.iload_n 1, 1) := by decide +kernel
theorem dJ9_floorMod_7cf53_2 : decode cJ9_floorMod_7cf53 2 = .ok (.irem, 1) := by decide +kernel
theorem dJ9_floorMod_7cf53_3 : decode cJ9_floorMod_7cf53 3 = .ok (.istore_n 2, 1) := by decide +kernel
theorem dJ9_floorMod_7cf53_4 : decode cJ9_floorMod_7cf53 4 = .ok (.iload_n 0, 1) := by decide +kernel
theorem dJ9_floorMod_7cf53_5 : decode cJ9_floorMod_7cf53 5 = .ok (.iload_n 1, 1) := by decide +kernel
theorem dJ9_floorMod_7cf53_6 : decode cJ9_floorMod_7cf53 6 = .ok (.ixor, 1) := by decide +kernel
theorem dJ9_floorMod_7cf53_7 : decode cJ9_floorMod_7cf53 7 = .ok (.ifCond .ge 11, 3) := by decide +kernel
theorem dJ9_floorMod_7cf53_10 : decode cJ9_floorMod_7cf53 10 = .ok (.iload_n 2, 1) := by decide +kernel
theorem dJ9_floorMod_7cf53_11 : decode cJ9_floorMod_7cf53 11 = .ok (.ifCond .eq 7, 3) := by decide +kernel
theorem dJ9_floorMod_7cf53_14 : decode cJ9_floorMod_7cf53 14 = .ok (.iload_n 2, 1) := by decide +kernel
theorem dJ9_floorMod_7cf53_15 : decode cJ9_floorMod_7cf53 15 = .ok (.iload_n 1, 1) := by decide +kernel
theorem dJ9_floorMod_7cf53_16 : decode cJ9_floorMod_7cf53 16 = .ok (.iadd, 1) := by decide +kernel
theorem dJ9_floorMod_7cf53_17 : decode cJ9_floorMod_7cf53 17 = .ok (.ireturn, 1) := by decide +kernel
theorem dJ9_floorMod_7cf53_18 : decode cJ9_floorMod_7cf53 18 = .ok (.iload_n 2, 1) := by decide +kernel
theorem dJ9_floorMod_7cf53_19 : decode cJ9_floorMod_7cf53 19 = .ok (.ireturn, 1) := by decide +kernel
theorem dJ9_floorMod_f86c9_0 : decode cJ9_floorMod_f86c9 0 = .ok (.lload_n 0, 1) := by decide +kernel
theorem dJ9_floorMod_f86c9_1 : decode cJ9_floorMod_f86c9 1 = .ok (.lload_n 2, 1) := by decide +kernel
theorem dJ9_floorMod_f86c9_2 : decode cJ9_floorMod_f86c9 2 = .ok (.lrem, 1) := by decide +kernel
theorem dJ9_floorMod_f86c9_3 : decode cJ9_floorMod_f86c9 3 = .ok (.lstore 4, 2) := by decide +kernel
theorem dJ9_floorMod_f86c9_5 : decode cJ9_floorMod_f86c9 5 = .ok (.lload_n 0, 1) := by decide +kernel
theorem dJ9_floorMod_f86c9_6 : decode cJ9_floorMod_f86c9 6 = .ok (.lload_n 2, 1) := by decide +kernel
theorem dJ9_floorMod_f86c9_7 : decode cJ9_floorMod_f86c9 7 = .ok (.lxor, 1) := by decide +kernel
theorem dJ9_floorMod_f86c9_8 : decode cJ9_floorMod_f86c9 8 = .ok (.lconst 0, 1) := by decide +kernel
theorem dJ9_floorMod_f86c9_9 : decode cJ9_floorMod_f86c9 9 = .ok (.lcmp, 1) := by decide +kernel
theorem dJ9_floorMod_f86c9_10 : decode cJ9_floorMod_f86c9 10 = .ok (.ifCond .ge 15, 3) := by decide +kernel
theorem dJ9_floorMod_f86c9_13 : decode cJ9_floorMod_f86c9 13 = .ok (.lload 4, 2) := by decide +kernel
theorem dJ9_floorMod_f86c9_15 : decode cJ9_floorMod_f86c9 15 = .ok (.lconst 0, 1) := by decide +kernel
theorem dJ9_floorMod_f86c9_16 : decode cJ9_floorMod_f86c9 16 = .ok (.lcmp, 1) := by decide +kernel
theorem dJ9_floorMod_f86c9_17 : decode cJ9_floorMod_f86c9 17 = .ok (.ifCond .eq 8, 3) := by decide +kernel
theorem dJ9_floorMod_f86c9_20 : decode cJ9_floorMod_f86c9 20 = .ok (.lload 4, 2) := by decide +kernel
theorem dJ9_floorMod_f86c9_22 : decode cJ9_floorMod_f86c9 22 = .ok (.lload_n 2, 1) := by decide +kernel
theorem dJ9_floorMod_f86c9_23 : decode cJ9_floorMod_f86c9 23 = .ok (.ladd, 1) := by decide +kernel
theorem dJ9_floorMod_f86c9_24 : decode cJ9_floorMod_f86c9 24 = .ok (.lreturn, 1) := by decide +kernel
theorem dJ9_floorMod_f86c9_25 : decode cJ9_floorMod_f86c9 25 = .ok (.lload 4, 2) := by decide +kernel
theorem dJ9_floorMod_f86c9_27 : decode cJ9_floorMod_f86c9 27 = .ok (.lreturn, 1) := by decide +kernel
theorem dJ9_abs_0f7a4_0 : decode cJ9_abs_0f7a4 0 = .ok (.iload_n 0, 1) := by decide +kernel
theorem dJ9_abs_0f7a4_1 : decode cJ9_abs_0f7a4 1 = .ok (.ifCond .ge 8, 3) := by decide +kernel
theorem dJ9_abs_0f7a4_4 : decode cJ9_abs_0f7a4 4 = .ok (.iload_n 0, 1) := by decide +kernel
theorem dJ9_abs_0f7a4_5 : decode cJ9_abs_0f7a4 5 = .ok (.ineg, 1) := by decide +kernel
theorem dJ9_abs_0f7a4_6 : decode cJ9_abs_0f7a4 6 = .ok (.goto 4, 3) := by decide +kernel
theorem dJ9_abs_0f7a4_9 : decode cJ9_abs_0f7a4 9 = .ok (.iload_n 0, 1) := by decide +kernel
theorem dJ9_abs_0f7a4_10 : decode cJ9_abs_0f7a4 10 = .ok (.ireturn, 1) := by decide +kernel
theorem dJ9_max_7cf53_0 : decode cJ9_max_7cf53 0 = .ok (.iload_n 0, 1) := by decide +kernel
theorem dJ9_max_7cf53_1 : decode cJ9_max_7cf53 1 = .ok (.iload_n 1, 1) := by decide +kernel
theorem dJ9_max_7cf53_2 : decode cJ9_max_7cf53 2 = .ok (.if_icmp .lt 7, 3) := by decide +kernel
theorem dJ9_max_7cf53_5 : decode cJ9_max_7cf53 5 = .ok (.iload_n 0, 1) := by decide +kernel
theorem dJ9_max_7cf53_6 : decode cJ9_max_7cf53 6 = .ok (.goto 4, 3) := by decide +kernel
theorem dJ9_max_7cf53_9 : decode cJ9_max_7cf53 9 = .ok (.iload_n 1, 1) := by decide +kernel
theorem dJ9_max_7cf53_10 : decode cJ9_max_7cf53 10 = .ok (.ireturn, 1) := by decide +kernel
theorem dJ9_min_7cf53_0 : decode cJ9_min_7cf53 0 = .ok (.iload_n 0, 1) := by decide +kernel
theorem dJ9_min_7cf53_1 : decode cJ9_min_7cf53 1 = .ok (.iload_n 1, 1) := by decide +kernel
theorem dJ9_min_7cf53_2 : decode cJ9_min_7cf53 2 = .ok (.if_icmp .gt 7, 3) := by decide +kernel
theorem dJ9_min_7cf53_5 : decode cJ9_min_7cf53 5 = .ok (.iload_n 0, 1) := by decide +kernel
theorem dJ9_min_7cf53_6 : decode cJ9_min_7cf53 6 = .ok (.goto 4, 3) := by decide +kernel
theorem dJ9_min_7cf53_9 : decode cJ9_min_7cf53 9 = .ok (.iload_n 1, 1) := by decide +kernel
theorem dJ9_min_7cf53_10 : decode cJ9_min_7cf53 10 = .ok (.ireturn, 1) := by decide +kernel
theorem dJ9_min_f86c9_0 : decode cJ9_min_f86c9 0 = .ok (.lload_n 0, 1) := by decide +kernel
theorem dJ9_min_f86c9_1 : decode cJ9_min_f86c9 1 = .ok (.lload_n 2, 1) := by decide +kernel
theorem dJ9_min_f86c9_2 : decode cJ9_min_f86c9 2 = .ok (.lcmp, 1) := by decide +kernel
theorem dJ9_min_f86c9_3 : decode cJ9_min_f86c9 3 = .ok (.ifCond .gt 7, 3) := by decide +kernel
theorem dJ9_min_f86c9_6 : decode cJ9_min_f86c9 6 = .ok (.lload_n 0, 1) := by decide +kernel
theorem dJ9_min_f86c9_7 : decode cJ9_min_f86c9 7 = .ok (.goto 4, 3) := by decide +kernel
theorem dJ9_min_f86c9_10 : decode cJ9_min_f86c9 10 = .ok (.lload_n 2, 1) := by decide +kernel
theorem dJ9_min_f86c9_11 : decode cJ9_min_f86c9 11 = .ok (.lreturn, 1) := by decide +kernel
theorem dJ7_fill_d0a16_0 : decode cJ7_fill_d0a16 0 = .ok (.iconst 0, 1) := by decide +kernel
theorem dJ7_fill_d0a16_1 : decode cJ7_fill_d0a16 1 = .ok (.istore_n 3, 1) := by decide +kernel
theorem dJ7_fill_d0a16_2 : decode cJ7_fill_d0a16 2 = .ok (.aload_n 0, 1) := by decide +kernel
theorem dJ7_fill_d0a16_3 : decode cJ7_fill_d0a16 3 = .ok (.arraylength, 1) := by decide +kernel
theorem dJ7_fill_d0a16_4 : decode cJ7_fill_d0a16 4 = .ok (.istore 4, 2) := by decide +kernel
theorem dJ7_fill_d0a16_6 : decode cJ7_fill_d0a16 6 = .ok (.iload_n 3, 1) := by decide +kernel
theorem dJ7_fill_d0a16_7 : decode cJ7_fill_d0a16 7 = .ok (.iload 4, 2) := by decide +kernel
theorem dJ7_fill_d0a16_9 : decode cJ7_fill_d0a16 9 = .ok (.if_icmp .ge 13, 3) := by decide +kernel
theorem dJ7_fill_d0a16_12 : decode cJ7_fill_d0a16 12 = .ok (.aload_n 0, 1) := by decide +kernel
theorem dJ7_fill_d0a16_13 : decode cJ7_fill_d0a16 13 = .ok (.iload_n 3, 1) := by decide +kernel
theorem dJ7_fill_d0a16_14 : decode cJ7_fill_d0a16 14 = .ok (.lload_n 1, 1) := by decide +kernel
theorem dJ7_fill_d0a16_15 : decode cJ7_fill_d0a16 15 = .ok (.lastore, 1) := by decide +kernel
theorem dJ7_fill_d0a16_16 : decode cJ7_fill_d0a16 16 = .ok (.iinc 3 1, 3) := by decide +kernel
theorem dJ7_fill_d0a16_19 : decode cJ7_fill_d0a16 19 = .ok (.goto (-13), 3) := by decide +kernel
theorem dJ7_fill_d0a16_22 : decode cJ7_fill_d0a16 22 = .ok (.return_, 1) := by decide +kernel
theorem dJ7_fill_53178_0 : decode cJ7_fill_53178 0 = .ok (.iconst 0, 1) := by decide +kernel
theorem dJ7_fill_53178_1 : decode cJ7_fill_53178 1 = .ok (.istore_n 2, 1) := by decide +kernel
theorem dJ7_fill_53178_2 : decode cJ7_fill_53178 2 = .ok (.aload_n 0, 1) := by decide +kernel
theorem dJ7_fill_53178_3 : decode cJ7_fill_53178 3 = .ok (.arraylength, 1) := by decide +kernel
theorem dJ7_fill_53178_4 : decode cJ7_fill_53178 4 = .ok (.istore_n 3, 1) := by decide +kernel
theorem dJ7_fill_53178_5 : decode cJ7_fill_53178 5 = .ok (.iload_n 2, 1) := by decide +kernel
theorem dJ7_fill_53178_6 : decode cJ7_fill_53178 6 = .ok (.iload_n 3, 1) := by decide +kernel
theorem dJ7_fill_53178_7 : decode cJ7_fill_53178 7 = .ok (.if_icmp .ge 13, 3) := by decide +kernel
theorem dJ7_fill_53178_10 : decode cJ7_fill_53178 10 = .ok (.aload_n 0, 1) := by decide +kernel
theorem dJ7_fill_53178_11 : decode cJ7_fill_53178 11 = .ok (.iload_n 2, 1) := by decide +kernel
theorem dJ7_fill_53178_12 : decode cJ7_fill_53178 12 = .ok (.iload_n 1, 1) := by decide +kernel
theorem dJ7_fill_53178_13 : decode cJ7_fill_53178 13 = .ok (.iastore, 1) := by decide +kernel
theorem dJ7_fill_53178_14 : decode cJ7_fill_53178 14 = .ok (.iinc 2 1, 3) := by decide +kernel
theorem dJ7_fill_53178_17 : decode cJ7_fill_53178 17 = .ok (.goto (-12), 3) := by decide +kernel
theorem dJ7_fill_53178_20 : decode cJ7_fill_53178 20 = .ok (.return_, 1) := by decide +kernel
theorem dL_law_0 : decode cL_law 0 = .ok (.new 7, 3) := by decide +kernel
theorem dL_law_3 : decode cL_law 3 = .ok (.dup, 1) := by decide +kernel
theorem dL_law_4 : decode cL_law 4 = .ok (.invokespecial 9, 3) := by decide +kernel
theorem dL_law_7 : decode cL_law 7 = .ok (.astore_n 1, 1) := by decide +kernel
theorem dL_law_8 : decode cL_law 8 = .ok (.new 10, 3) := by decide +kernel
theorem dL_law_11 : decode cL_law 11 = .ok (.dup, 1) := by decide +kernel
theorem dL_law_12 : decode cL_law 12 = .ok (.invokespecial 12, 3) := by decide +kernel
theorem dL_law_15 : decode cL_law 15 = .ok (.astore_n 2, 1) := by decide +kernel
theorem dL_law_16 : decode cL_law 16 = .ok (.iconst 0, 1) := by decide +kernel
theorem dL_law_17 : decode cL_law 17 = .ok (.istore_n 3, 1) := by decide +kernel
theorem dL_law_18 : decode cL_law 18 = .ok (.iload_n 3, 1) := by decide +kernel
theorem dL_law_19 : decode cL_law 19 = .ok (.aload_n 0, 1) := by decide +kernel
theorem dL_law_20 : decode cL_law 20 = .ok (.arraylength, 1) := by decide +kernel
theorem dL_law_21 : decode cL_law 21 = .ok (.iconst 5, 1) := by decide +kernel
theorem dL_law_22 : decode cL_law 22 = .ok (.isub, 1) := by decide +kernel
theorem dL_law_23 : decode cL_law 23 = .ok (.if_icmp .gt 805, 3) := by decide +kernel
theorem dL_law_26 : decode cL_law 26 = .ok (.aload_n 0, 1) := by decide +kernel
theorem dL_law_27 : decode cL_law 27 = .ok (.iload_n 3, 1) := by decide +kernel
theorem dL_law_28 : decode cL_law 28 = .ok (.iaload, 1) := by decide +kernel
theorem dL_law_29 : decode cL_law 29 = .ok (.bipush 31, 2) := by decide +kernel
theorem dL_law_31 : decode cL_law 31 = .ok (.iand, 1) := by decide +kernel
theorem dL_law_32 : decode cL_law 32 = .ok (.tableswitch 790 0 25 #[120, 163, 216, 249, 312, 335, 368, 401, 434, 447, 460, 473, 486, 509, 532, 565, 578, 591, 614, 647, 670, 703, 717, 731, 744, 767], 120) := by decide +kernel
theorem dL_law_152 : decode cL_law 152 = .ok (.aload_n 1, 1) := by decide +kernel
theorem dL_law_153 : decode cL_law 153 = .ok (.aload_n 0, 1) := by decide +kernel
theorem dL_law_154 : decode cL_law 154 = .ok (.iload_n 3, 1) := by decide +kernel
theorem dL_law_155 : decode cL_law 155 = .ok (.iconst 1, 1) := by decide +kernel
theorem dL_law_156 : decode cL_law 156 = .ok (.iadd, 1) := by decide +kernel
theorem dL_law_157 : decode cL_law 157 = .ok (.iaload, 1) := by decide +kernel
theorem dL_law_158 : decode cL_law 158 = .ok (.aload_n 0, 1) := by decide +kernel
theorem dL_law_159 : decode cL_law 159 = .ok (.iload_n 3, 1) := by decide +kernel
theorem dL_law_160 : decode cL_law 160 = .ok (.iconst 2, 1) := by decide +kernel
theorem dL_law_161 : decode cL_law 161 = .ok (.iadd, 1) := by decide +kernel
theorem dL_law_162 : decode cL_law 162 = .ok (.iaload, 1) := by decide +kernel
theorem dL_law_163 : decode cL_law 163 = .ok (.aload_n 0, 1) := by decide +kernel
theorem dL_law_164 : decode cL_law 164 = .ok (.iload_n 3, 1) := by decide +kernel
theorem dL_law_165 : decode cL_law 165 = .ok (.iconst 3, 1) := by decide +kernel
theorem dL_law_166 : decode cL_law 166 = .ok (.iadd, 1) := by decide +kernel
theorem dL_law_167 : decode cL_law 167 = .ok (.iaload, 1) := by decide +kernel
theorem dL_law_168 : decode cL_law 168 = .ok (.invokevirtual 13, 3) := by decide +kernel
theorem dL_law_171 : decode cL_law 171 = .ok (.aload_n 2, 1) := by decide +kernel
theorem dL_law_172 : decode cL_law 172 = .ok (.aload_n 0, 1) := by decide +kernel
theorem dL_law_173 : decode cL_law 173 = .ok (.iload_n 3, 1) := by decide +kernel
theorem dL_law_174 : decode cL_law 174 = .ok (.iconst 1, 1) := by decide +kernel
theorem dL_law_175 : decode cL_law 175 = .ok (.iadd, 1) := by decide +kernel
theorem dL_law_176 : decode cL_law 176 = .ok (.iaload, 1) := by decide +kernel
theorem dL_law_177 : decode cL_law 177 = .ok (.aload_n 0, 1) := by decide +kernel
theorem dL_law_178 : decode cL_law 178 = .ok (.iload_n 3, 1) := by decide +kernel
theorem dL_law_179 : decode cL_law 179 = .ok (.iconst 2, 1) := by decide +kernel
theorem dL_law_180 : decode cL_law 180 = .ok (.iadd, 1) := by decide +kernel
theorem dL_law_181 : decode cL_law 181 = .ok (.iaload, 1) := by decide +kernel
theorem dL_law_182 : decode cL_law 182 = .ok (.aload_n 0, 1) := by decide +kernel
theorem dL_law_183 : decode cL_law 183 = .ok (.iload_n 3, 1) := by decide +kernel
theorem dL_law_184 : decode cL_law 184 = .ok (.iconst 3, 1) := by decide +kernel
theorem dL_law_185 : decode cL_law 185 = .ok (.iadd, 1) := by decide +kernel
theorem dL_law_186 : decode cL_law 186 = .ok (.iaload, 1) := by decide +kernel
theorem dL_law_187 : decode cL_law 187 = .ok (.invokevirtual 17, 3) := by decide +kernel
theorem dL_law_190 : decode cL_law 190 = .ok (.if_icmp .eq 632, 3) := by decide +kernel
theorem dL_law_193 : decode cL_law 193 = .ok (.iconst 0, 1) := by decide +kernel
theorem dL_law_194 : decode cL_law 194 = .ok (.ireturn, 1) := by decide +kernel
theorem dL_law_195 : decode cL_law 195 = .ok (.aload_n 1, 1) := by decide +kernel
theorem dL_law_196 : decode cL_law 196 = .ok (.aload_n 0, 1) := by decide +kernel
theorem dL_law_197 : decode cL_law 197 = .ok (.iload_n 3, 1) := by decide +kernel
theorem dL_law_198 : decode cL_law 198 = .ok (.iconst 1, 1) := by decide +kernel
theorem dL_law_199 : decode cL_law 199 = .ok (.iadd, 1) := by decide +kernel
theorem dL_law_200 : decode cL_law 200 = .ok (.iaload, 1) := by decide +kernel
theorem dL_law_201 : decode cL_law 201 = .ok (.aload_n 0, 1) := by decide +kernel
theorem dL_law_202 : decode cL_law 202 = .ok (.iload_n 3, 1) := by decide +kernel
theorem dL_law_203 : decode cL_law 203 = .ok (.iconst 2, 1) := by decide +kernel
theorem dL_law_204 : decode cL_law 204 = .ok (.iadd, 1) := by decide +kernel
theorem dL_law_205 : decode cL_law 205 = .ok (.iaload, 1) := by decide +kernel
theorem dL_law_206 : decode cL_law 206 = .ok (.aload_n 0, 1) := by decide +kernel
theorem dL_law_207 : decode cL_law 207 = .ok (.iload_n 3, 1) := by decide +kernel
theorem dL_law_208 : decode cL_law 208 = .ok (.iconst 3, 1) := by decide +kernel
theorem dL_law_209 : decode cL_law 209 = .ok (.iadd, 1) := by decide +kernel
theorem dL_law_210 : decode cL_law 210 = .ok (.iaload, 1) := by decide +kernel
theorem dL_law_211 : decode cL_law 211 = .ok (.aload_n 0, 1) := by decide +kernel
theorem dL_law_212 : decode cL_law 212 = .ok (.iload_n 3, 1) := by decide +kernel
theorem dL_law_213 : decode cL_law 213 = .ok (.iconst 4, 1) := by decide +kernel
theorem dL_law_214 : decode cL_law 214 = .ok (.iadd, 1) := by decide +kernel
theorem dL_law_215 : decode cL_law 215 = .ok (.iaload, 1) := by decide +kernel
theorem dL_law_216 : decode cL_law 216 = .ok (.invokevirtual 18, 3) := by decide +kernel
theorem dL_law_219 : decode cL_law 219 = .ok (.aload_n 2, 1) := by decide +kernel
theorem dL_law_220 : decode cL_law 220 = .ok (.aload_n 0, 1) := by decide +kernel
theorem dL_law_221 : decode cL_law 221 = .ok (.iload_n 3, 1) := by decide +kernel
theorem dL_law_222 : decode cL_law 222 = .ok (.iconst 1, 1) := by decide +kernel
theorem dL_law_223 : decode cL_law 223 = .ok (.iadd, 1) := by decide +kernel
theorem dL_law_224 : decode cL_law 224 = .ok (.iaload, 1) := by decide +kernel
theorem dL_law_225 : decode cL_law 225 = .ok (.aload_n 0, 1) := by decide +kernel
theorem dL_law_226 : decode cL_law 226 = .ok (.iload_n 3, 1) := by decide +kernel
theorem dL_law_227 : decode cL_law 227 = .ok (.iconst 2, 1) := by decide +kernel
theorem dL_law_228 : decode cL_law 228 = .ok (.iadd, 1) := by decide +kernel
theorem dL_law_229 : decode cL_law 229 = .ok (.iaload, 1) := by decide +kernel
theorem dL_law_230 : decode cL_law 230 = .ok (.aload_n 0, 1) := by decide +kernel
theorem dL_law_231 : decode cL_law 231 = .ok (.iload_n 3, 1) := by decide +kernel
theorem dL_law_232 : decode cL_law 232 = .ok (.iconst 3, 1) := by decide +kernel
theorem dL_law_233 : decode cL_law 233 = .ok (.iadd, 1) := by decide +kernel
theorem dL_law_234 : decode cL_law 234 = .ok (.iaload, 1) := by decide +kernel
theorem dL_law_235 : decode cL_law 235 = .ok (.aload_n 0, 1) := by decide +kernel
theorem dL_law_236 : decode cL_law 236 = .ok (.iload_n 3, 1) := by decide +kernel
theorem dL_law_237 : decode cL_law 237 = .ok (.iconst 4, 1) := by decide +kernel
theorem dL_law_238 : decode cL_law 238 = .ok (.iadd, 1) := by decide +kernel
theorem dL_law_239 : decode cL_law 239 = .ok (.iaload, 1) := by decide +kernel
theorem dL_law_240 : decode cL_law 240 = .ok (.invokevirtual 22, 3) := by decide +kernel
theorem dL_law_243 : decode cL_law 243 = .ok (.if_icmp .eq 579, 3) := by decide +kernel
theorem dL_law_246 : decode cL_law 246 = .ok (.iconst 0, 1) := by decide +kernel
theorem dL_law_247 : decode cL_law 247 = .ok (.ireturn, 1) := by decide +kernel
theorem dL_law_248 : decode cL_law 248 = .ok (.aload_n 1, 1) := by decide +kernel
theorem dL_law_249 : decode cL_law 249 = .ok (.aload_n 0, 1) := by decide +kernel
theorem dL_law_250 : decode cL_law 250 = .ok (.iload_n 3, 1) := by decide +kernel
theorem dL_law_251 : decode cL_law 251 = .ok (.iconst 1, 1) := by decide +kernel
theorem dL_law_252 : decode cL_law 252 = .ok (.iadd, 1) := by decide +kernel
theorem dL_law_253 : decode cL_law 253 = .ok (.iaload, 1) := by decide +kernel
theorem dL_law_254 : decode cL_law 254 = .ok (.aload_n 0, 1) := by decide +kernel
theorem dL_law_255 : decode cL_law 255 = .ok (.iload_n 3, 1) := by decide +kernel
theorem dL_law_256 : decode cL_law 256 = .ok (.iconst 2, 1) := by decide +kernel
theorem dL_law_257 : decode cL_law 257 = .ok (.iadd, 1) := by decide +kernel
theorem dL_law_258 : decode cL_law 258 = .ok (.iaload, 1) := by decide +kernel
theorem dL_law_259 : decode cL_law 259 = .ok (.invokevirtual 23, 3) := by decide +kernel
theorem dL_law_262 : decode cL_law 262 = .ok (.aload_n 2, 1) := by decide +kernel
theorem dL_law_263 : decode cL_law 263 = .ok (.aload_n 0, 1) := by decide +kernel
theorem dL_law_264 : decode cL_law 264 = .ok (.iload_n 3, 1) := by decide +kernel
theorem dL_law_265 : decode cL_law 265 = .ok (.iconst 1, 1) := by decide +kernel
theorem dL_law_266 : decode cL_law 266 = .ok (.iadd, 1) := by decide +kernel
theorem dL_law_267 : decode cL_law 267 = .ok (.iaload, 1) := by decide +kernel
theorem dL_law_268 : decode cL_law 268 = .ok (.aload_n 0, 1) := by decide +kernel
theorem dL_law_269 : decode cL_law 269 = .ok (.iload_n 3, 1) := by decide +kernel
theorem dL_law_270 : decode cL_law 270 = .ok (.iconst 2, 1) := by decide +kernel
theorem dL_law_271 : decode cL_law 271 = .ok (.iadd, 1) := by decide +kernel
theorem dL_law_272 : decode cL_law 272 = .ok (.iaload, 1) := by decide +kernel
theorem dL_law_273 : decode cL_law 273 = .ok (.invokevirtual 27, 3) := by decide +kernel
theorem dL_law_276 : decode cL_law 276 = .ok (.if_icmp .eq 546, 3) := by decide +kernel
theorem dL_law_279 : decode cL_law 279 = .ok (.iconst 0, 1) := by decide +kernel
theorem dL_law_280 : decode cL_law 280 = .ok (.ireturn, 1) := by decide +kernel
theorem dL_law_281 : decode cL_law 281 = .ok (.aload_n 1, 1) := by decide +kernel
theorem dL_law_282 : decode cL_law 282 = .ok (.aload_n 0, 1) := by decide +kernel
theorem dL_law_283 : decode cL_law 283 = .ok (.iload_n 3, 1) := by decide +kernel
theorem dL_law_284 : decode cL_law 284 = .ok (.iconst 1, 1) := by decide +kernel
theorem dL_law_285 : decode cL_law 285 = .ok (.iadd, 1) := by decide +kernel
theorem dL_law_286 : decode cL_law 286 = .ok (.iaload, 1) := by decide +kernel
theorem dL_law_287 : decode cL_law 287 = .ok (.aload_n 0, 1) := by decide +kernel
theorem dL_law_288 : decode cL_law 288 = .ok (.iload_n 3, 1) := by decide +kernel
theorem dL_law_289 : decode cL_law 289 = .ok (.iconst 2, 1) := by decide +kernel
theorem dL_law_290 : decode cL_law 290 = .ok (.iadd, 1) := by decide +kernel
theorem dL_law_291 : decode cL_law 291 = .ok (.iaload, 1) := by decide +kernel
theorem dL_law_292 : decode cL_law 292 = .ok (.i2l, 1) := by decide +kernel
theorem dL_law_293 : decode cL_law 293 = .ok (.bipush 32, 2) := by decide +kernel
theorem dL_law_295 : decode cL_law 295 = .ok (.lshl, 1) := by decide +kernel
theorem dL_law_296 : decode cL_law 296 = .ok (.aload_n 0, 1) := by decide +kernel
theorem dL_law_297 : decode cL_law 297 = .ok (.iload_n 3, 1) := by decide +kernel
theorem dL_law_298 : decode cL_law 298 = .ok (.iconst 3, 1) := by decide +kernel
theorem dL_law_299 : decode cL_law 299 = .ok (.iadd, 1) := by decide +kernel
theorem dL_law_300 : decode cL_law 300 = .ok (.iaload, 1) := by decide +kernel
theorem dL_law_301 : decode cL_law 301 = .ok (.i2l, 1) := by decide +kernel
theorem dL_law_302 : decode cL_law 302 = .ok (.ldc2_w 28, 3) := by decide +kernel
theorem dL_law_305 : decode cL_law 305 = .ok (.land, 1) := by decide +kernel
theorem dL_law_306 : decode cL_law 306 = .ok (.lor, 1) := by decide +kernel
theorem dL_law_307 : decode cL_law 307 = .ok (.invokevirtual 30, 3) := by decide +kernel
theorem dL_law_310 : decode cL_law 310 = .ok (.aload_n 2, 1) := by decide +kernel
theorem dL_law_311 : decode cL_law 311 = .ok (.aload_n 0, 1) := by decide +kernel
theorem dL_law_312 : decode cL_law 312 = .ok (.iload_n 3, 1) := by decide +kernel
theorem dL_law_313 : decode cL_law 313 = .ok (.iconst 1, 1) := by decide +kernel
theorem dL_law_314 : decode cL_law 314 = .ok (.iadd, 1) := by decide +kernel
theorem dL_law_315 : decode cL_law 315 = .ok (.iaload, 1) := by decide +kernel
theorem dL_law_316 : decode cL_law 316 = .ok (.aload_n 0, 1) := by decide +kernel
theorem dL_law_317 : decode cL_law 317 = .ok (.iload_n 3, 1) := by decide +kernel
theorem dL_law_318 : decode cL_law 318 = .ok (.iconst 2, 1) := by decide +kernel
theorem dL_law_319 : decode cL_law 319 = .ok (.iadd, 1) := by decide +kernel
theorem dL_law_320 : decode cL_law 320 = .ok (.iaload, 1) := by decide +kernel
theorem dL_law_321 : decode cL_law 321 = .ok (.i2l, 1) := by decide +kernel
theorem dL_law_322 : decode cL_law 322 = .ok (.bipush 32, 2) := by decide +kernel
theorem dL_law_324 : decode cL_law 324 = .ok (.lshl, 1) := by decide +kernel
theorem dL_law_325 : decode cL_law 325 = .ok (.aload_n 0, 1) := by decide +kernel
theorem dL_law_326 : decode cL_law 326 = .ok (.iload_n 3, 1) := by decide +kernel
theorem dL_law_327 : decode cL_law 327 = .ok (.iconst 3, 1) := by decide +kernel
theorem dL_law_328 : decode cL_law 328 = .ok (.iadd, 1) := by decide +kernel
theorem dL_law_329 : decode cL_law 329 = .ok (.iaload, 1) := by decide +kernel
theorem dL_law_330 : decode cL_law 330 = .ok (.i2l, 1) := by decide +kernel
theorem dL_law_331 : decode cL_law 331 = .ok (.ldc2_w 28, 3) := by decide +kernel
theorem dL_law_334 : decode cL_law 334 = .ok (.land, 1) := by decide +kernel
theorem dL_law_335 : decode cL_law 335 = .ok (.lor, 1) := by decide +kernel
theorem dL_law_336 : decode cL_law 336 = .ok (.invokevirtual 34, 3) := by decide +kernel
theorem dL_law_339 : decode cL_law 339 = .ok (.if_icmp .eq 483, 3) := by decide +kernel
theorem dL_law_342 : decode cL_law 342 = .ok (.iconst 0, 1) := by decide +kernel
theorem dL_law_343 : decode cL_law 343 = .ok (.ireturn, 1) := by decide +kernel
theorem dL_law_344 : decode cL_law 344 = .ok (.aload_n 1, 1) := by decide +kernel
theorem dL_law_345 : decode cL_law 345 = .ok (.aload_n 0, 1) := by decide +kernel
theorem dL_law_346 : decode cL_law 346 = .ok (.iload_n 3, 1) := by decide +kernel
theorem dL_law_347 : decode cL_law 347 = .ok (.iconst 1, 1) := by decide +kernel
theorem dL_law_348 : decode cL_law 348 = .ok (.iadd, 1) := by decide +kernel
theorem dL_law_349 : decode cL_law 349 = .ok (.iaload, 1) := by decide +kernel
theorem dL_law_350 : decode cL_law 350 = .ok (.invokevirtual 35, 3) := by decide +kernel
theorem dL_law_353 : decode cL_law 353 = .ok (.aload_n 2, 1) := by decide +kernel
theorem dL_law_354 : decode cL_law 354 = .ok (.aload_n 0, 1) := by decide +kernel
theorem dL_law_355 : decode cL_law 355 = .ok (.iload_n 3, 1) := by decide +kernel
theorem dL_law_356 : decode cL_law 356 = .ok (.iconst 1, 1) := by decide +kernel
theorem dL_law_357 : decode cL_law 357 = .ok (.iadd, 1) := by decide +kernel
theorem dL_law_358 : decode cL_law 358 = .ok (.iaload, 1) := by decide +kernel
theorem dL_law_359 : decode cL_law 359 = .ok (.invokevirtual 39, 3) := by decide +kernel
theorem dL_law_362 : decode cL_law 362 = .ok (.if_icmp .eq 460, 3) := by decide +kernel
theorem dL_law_365 : decode cL_law 365 = .ok (.iconst 0, 1) := by decide +kernel
theorem dL_law_366 : decode cL_law 366 = .ok (.ireturn, 1) := by decide +kernel
theorem dL_law_367 : decode cL_law 367 = .ok (.aload_n 1, 1) := by decide +kernel
theorem dL_law_368 : decode cL_law 368 = .ok (.aload_n 0, 1) := by decide +kernel
theorem dL_law_369 : decode cL_law 369 = .ok (.iload_n 3, 1) := by decide +kernel
theorem dL_law_370 : decode cL_law 370 = .ok (.iconst 1, 1) := by decide +kernel
theorem dL_law_371 : decode cL_law 371 = .ok (.iadd, 1) := by decide +kernel
theorem dL_law_372 : decode cL_law 372 = .ok (.iaload, 1) := by decide +kernel
theorem dL_law_373 : decode cL_law 373 = .ok (.aload_n 0, 1) := by decide +kernel
theorem dL_law_374 : decode cL_law 374 = .ok (.iload_n 3, 1) := by decide +kernel
theorem dL_law_375 : decode cL_law 375 = .ok (.iconst 2, 1) := by decide +kernel
theorem dL_law_376 : decode cL_law 376 = .ok (.iadd, 1) := by decide +kernel
theorem dL_law_377 : decode cL_law 377 = .ok (.iaload, 1) := by decide +kernel
theorem dL_law_378 : decode cL_law 378 = .ok (.invokevirtual 40, 3) := by decide +kernel
theorem dL_law_381 : decode cL_law 381 = .ok (.aload_n 2, 1) := by decide +kernel
theorem dL_law_382 : decode cL_law 382 = .ok (.aload_n 0, 1) := by decide +kernel
theorem dL_law_383 : decode cL_law 383 = .ok (.iload_n 3, 1) := by decide +kernel
theorem dL_law_384 : decode cL_law 384 = .ok (.iconst 1, 1) := by decide +kernel
theorem dL_law_385 : decode cL_law 385 = .ok (.iadd, 1) := by decide +kernel
theorem dL_law_386 : decode cL_law 386 = .ok (.iaload, 1) := by decide +kernel
theorem dL_law_387 : decode cL_law 387 = .ok (.aload_n 0, 1) := by decide +kernel
theorem dL_law_388 : decode cL_law 388 = .ok (.iload_n 3, 1) := by decide +kernel
theorem dL_law_389 : decode cL_law 389 = .ok (.iconst 2, 1) := by decide +kernel
theorem dL_law_390 : decode cL_law 390 = .ok (.iadd, 1) := by decide +kernel
theorem dL_law_391 : decode cL_law 391 = .ok (.iaload, 1) := by decide +kernel
theorem dL_law_392 : decode cL_law 392 = .ok (.invokevirtual 44, 3) := by decide +kernel
theorem dL_law_395 : decode cL_law 395 = .ok (.if_icmp .eq 427, 3) := by decide +kernel
theorem dL_law_398 : decode cL_law 398 = .ok (.iconst 0, 1) := by decide +kernel
theorem dL_law_399 : decode cL_law 399 = .ok (.ireturn, 1) := by decide +kernel
theorem dL_law_400 : decode cL_law 400 = .ok (.aload_n 1, 1) := by decide +kernel
theorem dL_law_401 : decode cL_law 401 = .ok (.aload_n 0, 1) := by decide +kernel
theorem dL_law_402 : decode cL_law 402 = .ok (.iload_n 3, 1) := by decide +kernel
theorem dL_law_403 : decode cL_law 403 = .ok (.iconst 1, 1) := by decide +kernel
theorem dL_law_404 : decode cL_law 404 = .ok (.iadd, 1) := by decide +kernel
theorem dL_law_405 : decode cL_law 405 = .ok (.iaload, 1) := by decide +kernel
theorem dL_law_406 : decode cL_law 406 = .ok (.aload_n 0, 1) := by decide +kernel
theorem dL_law_407 : decode cL_law 407 = .ok (.iload_n 3, 1) := by decide +kernel
theorem dL_law_408 : decode cL_law 408 = .ok (.iconst 2, 1) := by decide +kernel
theorem dL_law_409 : decode cL_law 409 = .ok (.iadd, 1) := by decide +kernel
theorem dL_law_410 : decode cL_law 410 = .ok (.iaload, 1) := by decide +kernel
theorem dL_law_411 : decode cL_law 411 = .ok (.invokevirtual 45, 3) := by decide +kernel
theorem dL_law_414 : decode cL_law 414 = .ok (.aload_n 2, 1) := by decide +kernel
theorem dL_law_415 : decode cL_law 415 = .ok (.aload_n 0, 1) := by decide +kernel
theorem dL_law_416 : decode cL_law 416 = .ok (.iload_n 3, 1) := by decide +kernel
theorem dL_law_417 : decode cL_law 417 = .ok (.iconst 1, 1) := by decide +kernel
theorem dL_law_418 : decode cL_law 418 = .ok (.iadd, 1) := by decide +kernel
theorem dL_law_419 : decode cL_law 419 = .ok (.iaload, 1) := by decide +kernel
theorem dL_law_420 : decode cL_law 420 = .ok (.aload_n 0, 1) := by decide +kernel
theorem dL_law_421 : decode cL_law 421 = .ok (.iload_n 3, 1) := by decide +kernel
theorem dL_law_422 : decode cL_law 422 = .ok (.iconst 2, 1) := by decide +kernel
theorem dL_law_423 : decode cL_law 423 = .ok (.iadd, 1) := by decide +kernel
theorem dL_law_424 : decode cL_law 424 = .ok (.iaload, 1) := by decide +kernel
theorem dL_law_425 : decode cL_law 425 = .ok (.invokevirtual 48, 3) := by decide +kernel
theorem dL_law_428 : decode cL_law 428 = .ok (.if_icmp .eq 394, 3) := by decide +kernel
theorem dL_law_431 : decode cL_law 431 = .ok (.iconst 0, 1) := by decide +kernel
theorem dL_law_432 : decode cL_law 432 = .ok (.ireturn, 1) := by decide +kernel
theorem dL_law_433 : decode cL_law 433 = .ok (.aload_n 1, 1) := by decide +kernel
theorem dL_law_434 : decode cL_law 434 = .ok (.aload_n 0, 1) := by decide +kernel
theorem dL_law_435 : decode cL_law 435 = .ok (.iload_n 3, 1) := by decide +kernel
theorem dL_law_436 : decode cL_law 436 = .ok (.iconst 1, 1) := by decide +kernel
theorem dL_law_437 : decode cL_law 437 = .ok (.iadd, 1) := by decide +kernel
theorem dL_law_438 : decode cL_law 438 = .ok (.iaload, 1) := by decide +kernel
theorem dL_law_439 : decode cL_law 439 = .ok (.aload_n 0, 1) := by decide +kernel
theorem dL_law_440 : decode cL_law 440 = .ok (.iload_n 3, 1) := by decide +kernel
theorem dL_law_441 : decode cL_law 441 = .ok (.iconst 2, 1) := by decide +kernel
theorem dL_law_442 : decode cL_law 442 = .ok (.iadd, 1) := by decide +kernel
theorem dL_law_443 : decode cL_law 443 = .ok (.iaload, 1) := by decide +kernel
theorem dL_law_444 : decode cL_law 444 = .ok (.invokevirtual 49, 3) := by decide +kernel
theorem dL_law_447 : decode cL_law 447 = .ok (.aload_n 2, 1) := by decide +kernel
theorem dL_law_448 : decode cL_law 448 = .ok (.aload_n 0, 1) := by decide +kernel
