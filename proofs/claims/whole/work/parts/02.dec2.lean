theorem dX10_becomes_77 : decode cX10_becomes 77 = .ok (.iload 5, 2) := by decide +kernel
theorem dX10_becomes_79 : decode cX10_becomes 79 = .ok (.ifCond .eq 20, 3) := by decide +kernel
theorem dX10_becomes_82 : decode cX10_becomes 82 = .ok (.aload_n 0, 1) := by decide +kernel
theorem dX10_becomes_83 : decode cX10_becomes 83 = .ok (.iload_n 1, 1) := by decide +kernel
theorem dX10_becomes_84 : decode cX10_becomes 84 = .ok (.iload 6, 2) := by decide +kernel
theorem dX10_becomes_86 : decode cX10_becomes 86 = .ok (.isub, 1) := by decide +kernel
theorem dX10_becomes_87 : decode cX10_becomes 87 = .ok (.invokevirtual 111, 3) := by decide +kernel
theorem dX10_becomes_90 : decode cX10_becomes 90 = .ok (.ldc 53, 2) := by decide +kernel
theorem dX10_becomes_92 : decode cX10_becomes 92 = .ok (.if_icmp .eq 7, 3) := by decide +kernel
theorem dX10_becomes_95 : decode cX10_becomes 95 = .ok (.iconst 1, 1) := by decide +kernel
theorem dX10_becomes_96 : decode cX10_becomes 96 = .ok (.goto 4, 3) := by decide +kernel
theorem dX10_becomes_99 : decode cX10_becomes 99 = .ok (.iconst 0, 1) := by decide +kernel
theorem dX10_becomes_100 : decode cX10_becomes 100 = .ok (.istore 5, 2) := by decide +kernel
theorem dX10_becomes_102 : decode cX10_becomes 102 = .ok (.iload 4, 2) := by decide +kernel
theorem dX10_becomes_104 : decode cX10_becomes 104 = .ok (.iload 5, 2) := by decide +kernel
theorem dX10_becomes_106 : decode cX10_becomes 106 = .ok (.ifCond .eq 14, 3) := by decide +kernel
theorem dX10_becomes_109 : decode cX10_becomes 109 = .ok (.aload_n 0, 1) := by decide +kernel
theorem dX10_becomes_110 : decode cX10_becomes 110 = .ok (.iload_n 1, 1) := by decide +kernel
theorem dX10_becomes_111 : decode cX10_becomes 111 = .ok (.iload 6, 2) := by decide +kernel
theorem dX10_becomes_113 : decode cX10_becomes 113 = .ok (.isub, 1) := by decide +kernel
theorem dX10_becomes_114 : decode cX10_becomes 114 = .ok (.invokevirtual 111, 3) := by decide +kernel
theorem dX10_becomes_117 : decode cX10_becomes 117 = .ok (.goto 4, 3) := by decide +kernel
theorem dX10_becomes_120 : decode cX10_becomes 120 = .ok (.iconst 0, 1) := by decide +kernel
theorem dX10_becomes_121 : decode cX10_becomes 121 = .ok (.iadd, 1) := by decide +kernel
theorem dX10_becomes_122 : decode cX10_becomes 122 = .ok (.istore 4, 2) := by decide +kernel
theorem dX10_becomes_124 : decode cX10_becomes 124 = .ok (.iinc 6 1, 3) := by decide +kernel
theorem dX10_becomes_127 : decode cX10_becomes 127 = .ok (.goto (-66), 3) := by decide +kernel
theorem dX10_becomes_130 : decode cX10_becomes 130 = .ok (.iload 5, 2) := by decide +kernel
theorem dX10_becomes_132 : decode cX10_becomes 132 = .ok (.ifCond .eq 12, 3) := by decide +kernel
theorem dX10_becomes_135 : decode cX10_becomes 135 = .ok (.iload 4, 2) := by decide +kernel
theorem dX10_becomes_137 : decode cX10_becomes 137 = .ok (.i2l, 1) := by decide +kernel
theorem dX10_becomes_138 : decode cX10_becomes 138 = .ok (.invokestatic 114, 3) := by decide +kernel
theorem dX10_becomes_141 : decode cX10_becomes 141 = .ok (.goto 5, 3) := by decide +kernel
theorem dX10_becomes_144 : decode cX10_becomes 144 = .ok (.ldc 53, 2) := by decide +kernel
theorem dX10_becomes_146 : decode cX10_becomes 146 = .ok (.ireturn, 1) := by decide +kernel
theorem dX10_becomes_147 : decode cX10_becomes 147 = .ok (.aload_n 0, 1) := by decide +kernel
theorem dX10_becomes_148 : decode cX10_becomes 148 = .ok (.iload_n 1, 1) := by decide +kernel
theorem dX10_becomes_149 : decode cX10_becomes 149 = .ok (.aload_n 0, 1) := by decide +kernel
theorem dX10_becomes_150 : decode cX10_becomes 150 = .ok (.getfield 13, 3) := by decide +kernel
theorem dX10_becomes_153 : decode cX10_becomes 153 = .ok (.iload_n 2, 1) := by decide +kernel
theorem dX10_becomes_154 : decode cX10_becomes 154 = .ok (.iconst 1, 1) := by decide +kernel
theorem dX10_becomes_155 : decode cX10_becomes 155 = .ok (.iadd, 1) := by decide +kernel
theorem dX10_becomes_156 : decode cX10_becomes 156 = .ok (.iaload, 1) := by decide +kernel
theorem dX10_becomes_157 : decode cX10_becomes 157 = .ok (.isub, 1) := by decide +kernel
theorem dX10_becomes_158 : decode cX10_becomes 158 = .ok (.bipush 48, 2) := by decide +kernel
theorem dX10_becomes_160 : decode cX10_becomes 160 = .ok (.iadd, 1) := by decide +kernel
theorem dX10_becomes_161 : decode cX10_becomes 161 = .ok (.invokevirtual 111, 3) := by decide +kernel
theorem dX10_becomes_164 : decode cX10_becomes 164 = .ok (.ireturn, 1) := by decide +kernel
theorem dX10_becomes_165 : decode cX10_becomes 165 = .ok (.aload_n 0, 1) := by decide +kernel
theorem dX10_becomes_166 : decode cX10_becomes 166 = .ok (.getfield 19, 3) := by decide +kernel
theorem dX10_becomes_169 : decode cX10_becomes 169 = .ok (.iload_n 1, 1) := by decide +kernel
theorem dX10_becomes_170 : decode cX10_becomes 170 = .ok (.iaload, 1) := by decide +kernel
theorem dX10_becomes_171 : decode cX10_becomes 171 = .ok (.ldc 53, 2) := by decide +kernel
theorem dX10_becomes_173 : decode cX10_becomes 173 = .ok (.if_icmp .eq 14, 3) := by decide +kernel
theorem dX10_becomes_176 : decode cX10_becomes 176 = .ok (.iload_n 1, 1) := by decide +kernel
theorem dX10_becomes_177 : decode cX10_becomes 177 = .ok (.aload_n 0, 1) := by decide +kernel
theorem dX10_becomes_178 : decode cX10_becomes 178 = .ok (.iload_n 2, 1) := by decide +kernel
theorem dX10_becomes_179 : decode cX10_becomes 179 = .ok (.iconst 1, 1) := by decide +kernel
theorem dX10_becomes_180 : decode cX10_becomes 180 = .ok (.iadd, 1) := by decide +kernel
theorem dX10_becomes_181 : decode cX10_becomes 181 = .ok (.invokevirtual 88, 3) := by decide +kernel
theorem dX10_becomes_184 : decode cX10_becomes 184 = .ok (.if_icmp .ge 12, 3) := by decide +kernel
theorem dX10_becomes_187 : decode cX10_becomes 187 = .ok (.aload_n 0, 1) := by decide +kernel
theorem dX10_becomes_188 : decode cX10_becomes 188 = .ok (.getfield 19, 3) := by decide +kernel
theorem dX10_becomes_191 : decode cX10_becomes 191 = .ok (.iload_n 1, 1) := by decide +kernel
theorem dX10_becomes_192 : decode cX10_becomes 192 = .ok (.iaload, 1) := by decide +kernel
theorem dX10_becomes_193 : decode cX10_becomes 193 = .ok (.goto 10, 3) := by decide +kernel
theorem dX10_becomes_196 : decode cX10_becomes 196 = .ok (.aload_n 0, 1) := by decide +kernel
theorem dX10_becomes_197 : decode cX10_becomes 197 = .ok (.getfield 19, 3) := by decide +kernel
theorem dX10_becomes_200 : decode cX10_becomes 200 = .ok (.iload_n 1, 1) := by decide +kernel
theorem dX10_becomes_201 : decode cX10_becomes 201 = .ok (.iaload, 1) := by decide +kernel
theorem dX10_becomes_202 : decode cX10_becomes 202 = .ok (.ineg, 1) := by decide +kernel
theorem dX10_becomes_203 : decode cX10_becomes 203 = .ok (.ireturn, 1) := by decide +kernel
theorem dX10_becomes_204 : decode cX10_becomes 204 = .ok (.iload_n 1, 1) := by decide +kernel
theorem dX10_becomes_205 : decode cX10_becomes 205 = .ok (.i2l, 1) := by decide +kernel
theorem dX10_becomes_206 : decode cX10_becomes 206 = .ok (.aload_n 0, 1) := by decide +kernel
theorem dX10_becomes_207 : decode cX10_becomes 207 = .ok (.iload_n 2, 1) := by decide +kernel
theorem dX10_becomes_208 : decode cX10_becomes 208 = .ok (.iconst 1, 1) := by decide +kernel
theorem dX10_becomes_209 : decode cX10_becomes 209 = .ok (.iadd, 1) := by decide +kernel
theorem dX10_becomes_210 : decode cX10_becomes 210 = .ok (.invokevirtual 88, 3) := by decide +kernel
theorem dX10_becomes_213 : decode cX10_becomes 213 = .ok (.i2l, 1) := by decide +kernel
theorem dX10_becomes_214 : decode cX10_becomes 214 = .ok (.aload_n 0, 1) := by decide +kernel
theorem dX10_becomes_215 : decode cX10_becomes 215 = .ok (.iload_n 2, 1) := by decide +kernel
theorem dX10_becomes_216 : decode cX10_becomes 216 = .ok (.iconst 3, 1) := by decide +kernel
theorem dX10_becomes_217 : decode cX10_becomes 217 = .ok (.iadd, 1) := by decide +kernel
theorem dX10_becomes_218 : decode cX10_becomes 218 = .ok (.invokevirtual 88, 3) := by decide +kernel
theorem dX10_becomes_221 : decode cX10_becomes 221 = .ok (.i2l, 1) := by decide +kernel
theorem dX10_becomes_222 : decode cX10_becomes 222 = .ok (.invokestatic 58, 3) := by decide +kernel
theorem dX10_becomes_225 : decode cX10_becomes 225 = .ok (.ifCond .eq 12, 3) := by decide +kernel
theorem dX10_becomes_228 : decode cX10_becomes 228 = .ok (.aload_n 0, 1) := by decide +kernel
theorem dX10_becomes_229 : decode cX10_becomes 229 = .ok (.getfield 19, 3) := by decide +kernel
theorem dX10_becomes_232 : decode cX10_becomes 232 = .ok (.iload_n 1, 1) := by decide +kernel
theorem dX10_becomes_233 : decode cX10_becomes 233 = .ok (.iaload, 1) := by decide +kernel
theorem dX10_becomes_234 : decode cX10_becomes 234 = .ok (.goto 5, 3) := by decide +kernel
theorem dX10_becomes_237 : decode cX10_becomes 237 = .ok (.ldc 53, 2) := by decide +kernel
theorem dX10_becomes_239 : decode cX10_becomes 239 = .ok (.ireturn, 1) := by decide +kernel
theorem dX10_becomes_240 : decode cX10_becomes 240 = .ok (.aload_n 0, 1) := by decide +kernel
theorem dX10_becomes_241 : decode cX10_becomes 241 = .ok (.getfield 19, 3) := by decide +kernel
theorem dX10_becomes_244 : decode cX10_becomes 244 = .ok (.iload_n 1, 1) := by decide +kernel
theorem dX10_becomes_245 : decode cX10_becomes 245 = .ok (.iaload, 1) := by decide +kernel
theorem dX10_becomes_246 : decode cX10_becomes 246 = .ok (.ldc 53, 2) := by decide +kernel
theorem dX10_becomes_248 : decode cX10_becomes 248 = .ok (.if_icmp .eq 15, 3) := by decide +kernel
theorem dX10_becomes_251 : decode cX10_becomes 251 = .ok (.aload_n 0, 1) := by decide +kernel
theorem dX10_becomes_252 : decode cX10_becomes 252 = .ok (.iload_n 1, 1) := by decide +kernel
theorem dX10_becomes_253 : decode cX10_becomes 253 = .ok (.iconst 1, 1) := by decide +kernel
theorem dX10_becomes_254 : decode cX10_becomes 254 = .ok (.isub, 1) := by decide +kernel
theorem dX10_becomes_255 : decode cX10_becomes 255 = .ok (.invokevirtual 111, 3) := by decide +kernel
theorem dX10_becomes_258 : decode cX10_becomes 258 = .ok (.ldc 53, 2) := by decide +kernel
theorem dX10_becomes_260 : decode cX10_becomes 260 = .ok (.if_icmp .ne 8, 3) := by decide +kernel
theorem dX10_becomes_263 : decode cX10_becomes 263 = .ok (.ldc 53, 2) := by decide +kernel
theorem dX10_becomes_265 : decode cX10_becomes 265 = .ok (.goto 21, 3) := by decide +kernel
theorem dX10_becomes_268 : decode cX10_becomes 268 = .ok (.aload_n 0, 1) := by decide +kernel
theorem dX10_becomes_269 : decode cX10_becomes 269 = .ok (.getfield 19, 3) := by decide +kernel
theorem dX10_becomes_272 : decode cX10_becomes 272 = .ok (.iload_n 1, 1) := by decide +kernel
theorem dX10_becomes_273 : decode cX10_becomes 273 = .ok (.iaload, 1) := by decide +kernel
theorem dX10_becomes_274 : decode cX10_becomes 274 = .ok (.aload_n 0, 1) := by decide +kernel
theorem dX10_becomes_275 : decode cX10_becomes 275 = .ok (.iload_n 1, 1) := by decide +kernel
theorem dX10_becomes_276 : decode cX10_becomes 276 = .ok (.iconst 1, 1) := by decide +kernel
theorem dX10_becomes_277 : decode cX10_becomes 277 = .ok (.isub, 1) := by decide +kernel
theorem dX10_becomes_278 : decode cX10_becomes 278 = .ok (.invokevirtual 111, 3) := by decide +kernel
theorem dX10_becomes_281 : decode cX10_becomes 281 = .ok (.isub, 1) := by decide +kernel
theorem dX10_becomes_282 : decode cX10_becomes 282 = .ok (.i2l, 1) := by decide +kernel
theorem dX10_becomes_283 : decode cX10_becomes 283 = .ok (.invokestatic 114, 3) := by decide +kernel
theorem dX10_becomes_286 : decode cX10_becomes 286 = .ok (.ireturn, 1) := by decide +kernel
theorem dX10_deal_0 : decode cX10_deal 0 = .ok (.iconst 0, 1) := by decide +kernel
theorem dX10_deal_1 : decode cX10_deal 1 = .ok (.istore_n 2, 1) := by decide +kernel
theorem dX10_deal_2 : decode cX10_deal 2 = .ok (.iload_n 2, 1) := by decide +kernel
theorem dX10_deal_3 : decode cX10_deal 3 = .ok (.bipush 24, 2) := by decide +kernel
theorem dX10_deal_5 : decode cX10_deal 5 = .ok (.if_icmp .ge 26, 3) := by decide +kernel
theorem dX10_deal_8 : decode cX10_deal 8 = .ok (.aload_n 0, 1) := by decide +kernel
theorem dX10_deal_9 : decode cX10_deal 9 = .ok (.getfield 16, 3) := by decide +kernel
theorem dX10_deal_12 : decode cX10_deal 12 = .ok (.iload_n 2, 1) := by decide +kernel
theorem dX10_deal_13 : decode cX10_deal 13 = .ok (.aload_n 0, 1) := by decide +kernel
theorem dX10_deal_14 : decode cX10_deal 14 = .ok (.getfield 7, 3) := by decide +kernel
theorem dX10_deal_17 : decode cX10_deal 17 = .ok (.bipush 24, 2) := by decide +kernel
theorem dX10_deal_19 : decode cX10_deal 19 = .ok (.iload_n 1, 1) := by decide +kernel
theorem dX10_deal_20 : decode cX10_deal 20 = .ok (.imul, 1) := by decide +kernel
theorem dX10_deal_21 : decode cX10_deal 21 = .ok (.iload_n 2, 1) := by decide +kernel
theorem dX10_deal_22 : decode cX10_deal 22 = .ok (.iadd, 1) := by decide +kernel
theorem dX10_deal_23 : decode cX10_deal 23 = .ok (.iaload, 1) := by decide +kernel
theorem dX10_deal_24 : decode cX10_deal 24 = .ok (.iastore, 1) := by decide +kernel
theorem dX10_deal_25 : decode cX10_deal 25 = .ok (.iinc 2 1, 3) := by decide +kernel
theorem dX10_deal_28 : decode cX10_deal 28 = .ok (.goto (-26), 3) := by decide +kernel
theorem dX10_deal_31 : decode cX10_deal 31 = .ok (.iconst 0, 1) := by decide +kernel
theorem dX10_deal_32 : decode cX10_deal 32 = .ok (.istore_n 2, 1) := by decide +kernel
theorem dX10_deal_33 : decode cX10_deal 33 = .ok (.iload_n 2, 1) := by decide +kernel
theorem dX10_deal_34 : decode cX10_deal 34 = .ok (.aload_n 0, 1) := by decide +kernel
theorem dX10_deal_35 : decode cX10_deal 35 = .ok (.getfield 83, 3) := by decide +kernel
theorem dX10_deal_38 : decode cX10_deal 38 = .ok (.if_icmp .ge 72, 3) := by decide +kernel
theorem dX10_deal_41 : decode cX10_deal 41 = .ok (.iconst 0, 1) := by decide +kernel
theorem dX10_deal_42 : decode cX10_deal 42 = .ok (.istore_n 3, 1) := by decide +kernel
theorem dX10_deal_43 : decode cX10_deal 43 = .ok (.iload_n 3, 1) := by decide +kernel
theorem dX10_deal_44 : decode cX10_deal 44 = .ok (.bipush 24, 2) := by decide +kernel
theorem dX10_deal_46 : decode cX10_deal 46 = .ok (.if_icmp .ge 21, 3) := by decide +kernel
theorem dX10_deal_49 : decode cX10_deal 49 = .ok (.aload_n 0, 1) := by decide +kernel
theorem dX10_deal_50 : decode cX10_deal 50 = .ok (.getfield 19, 3) := by decide +kernel
theorem dX10_deal_53 : decode cX10_deal 53 = .ok (.iload_n 3, 1) := by decide +kernel
theorem dX10_deal_54 : decode cX10_deal 54 = .ok (.aload_n 0, 1) := by decide +kernel
theorem dX10_deal_55 : decode cX10_deal 55 = .ok (.getfield 16, 3) := by decide +kernel
theorem dX10_deal_58 : decode cX10_deal 58 = .ok (.iload_n 3, 1) := by decide +kernel
theorem dX10_deal_59 : decode cX10_deal 59 = .ok (.iaload, 1) := by decide +kernel
theorem dX10_deal_60 : decode cX10_deal 60 = .ok (.iastore, 1) := by decide +kernel
theorem dX10_deal_61 : decode cX10_deal 61 = .ok (.iinc 3 1, 3) := by decide +kernel
theorem dX10_deal_64 : decode cX10_deal 64 = .ok (.goto (-21), 3) := by decide +kernel
theorem dX10_deal_67 : decode cX10_deal 67 = .ok (.iconst 0, 1) := by decide +kernel
theorem dX10_deal_68 : decode cX10_deal 68 = .ok (.istore_n 3, 1) := by decide +kernel
theorem dX10_deal_69 : decode cX10_deal 69 = .ok (.iload_n 3, 1) := by decide +kernel
theorem dX10_deal_70 : decode cX10_deal 70 = .ok (.bipush 24, 2) := by decide +kernel
theorem dX10_deal_72 : decode cX10_deal 72 = .ok (.if_icmp .ge 21, 3) := by decide +kernel
theorem dX10_deal_75 : decode cX10_deal 75 = .ok (.aload_n 0, 1) := by decide +kernel
theorem dX10_deal_76 : decode cX10_deal 76 = .ok (.getfield 16, 3) := by decide +kernel
theorem dX10_deal_79 : decode cX10_deal 79 = .ok (.iload_n 3, 1) := by decide +kernel
theorem dX10_deal_80 : decode cX10_deal 80 = .ok (.aload_n 0, 1) := by decide +kernel
theorem dX10_deal_81 : decode cX10_deal 81 = .ok (.iload_n 3, 1) := by decide +kernel
theorem dX10_deal_82 : decode cX10_deal 82 = .ok (.iload_n 2, 1) := by decide +kernel
theorem dX10_deal_83 : decode cX10_deal 83 = .ok (.invokevirtual 118, 3) := by decide +kernel
theorem dX10_deal_86 : decode cX10_deal 86 = .ok (.iastore, 1) := by decide +kernel
theorem dX10_deal_87 : decode cX10_deal 87 = .ok (.iinc 3 1, 3) := by decide +kernel
theorem dX10_deal_90 : decode cX10_deal 90 = .ok (.goto (-21), 3) := by decide +kernel
theorem dX10_deal_93 : decode cX10_deal 93 = .ok (.iload_n 2, 1) := by decide +kernel
theorem dX10_deal_94 : decode cX10_deal 94 = .ok (.iconst 1, 1) := by decide +kernel
theorem dX10_deal_95 : decode cX10_deal 95 = .ok (.aload_n 0, 1) := by decide +kernel
theorem dX10_deal_96 : decode cX10_deal 96 = .ok (.getfield 13, 3) := by decide +kernel
theorem dX10_deal_99 : decode cX10_deal 99 = .ok (.iload_n 2, 1) := by decide +kernel
theorem dX10_deal_100 : decode cX10_deal 100 = .ok (.iaload, 1) := by decide +kernel
theorem dX10_deal_101 : decode cX10_deal 101 = .ok (.invokestatic 92, 3) := by decide +kernel
theorem dX10_deal_104 : decode cX10_deal 104 = .ok (.iadd, 1) := by decide +kernel
theorem dX10_deal_105 : decode cX10_deal 105 = .ok (.iadd, 1) := by decide +kernel
theorem dX10_deal_106 : decode cX10_deal 106 = .ok (.istore_n 2, 1) := by decide +kernel
theorem dX10_deal_107 : decode cX10_deal 107 = .ok (.goto (-74), 3) := by decide +kernel
theorem dX10_deal_110 : decode cX10_deal 110 = .ok (.return_, 1) := by decide +kernel
theorem dX10_dealt_0 : decode cX10_dealt 0 = .ok (.iload_n 1, 1) := by decide +kernel
theorem dX10_dealt_1 : decode cX10_dealt 1 = .ok (.invokestatic 66, 3) := by decide +kernel
theorem dX10_dealt_4 : decode cX10_dealt 4 = .ok (.ifCond .ne 6, 3) := by decide +kernel
theorem dX10_dealt_7 : decode cX10_dealt 7 = .ok (.ldc 70, 2) := by decide +kernel
theorem dX10_dealt_9 : decode cX10_dealt 9 = .ok (.ireturn, 1) := by decide +kernel
theorem dX10_dealt_10 : decode cX10_dealt 10 = .ok (.iload_n 2, 1) := by decide +kernel
theorem dX10_dealt_11 : decode cX10_dealt 11 = .ok (.invokestatic 71, 3) := by decide +kernel
theorem dX10_dealt_14 : decode cX10_dealt 14 = .ok (.ifCond .ne 6, 3) := by decide +kernel
theorem dX10_dealt_17 : decode cX10_dealt 17 = .ok (.ldc 78, 2) := by decide +kernel
theorem dX10_dealt_19 : decode cX10_dealt 19 = .ok (.ireturn, 1) := by decide +kernel
theorem dX10_dealt_20 : decode cX10_dealt 20 = .ok (.aload_n 0, 1) := by decide +kernel
theorem dX10_dealt_21 : decode cX10_dealt 21 = .ok (.invokevirtual 122, 3) := by decide +kernel
theorem dX10_dealt_24 : decode cX10_dealt 24 = .ok (.ifCond .lt 6, 3) := by decide +kernel
theorem dX10_dealt_27 : decode cX10_dealt 27 = .ok (.ldc 126, 2) := by decide +kernel
theorem dX10_dealt_29 : decode cX10_dealt 29 = .ok (.ireturn, 1) := by decide +kernel
theorem dX10_dealt_30 : decode cX10_dealt 30 = .ok (.aload_n 0, 1) := by decide +kernel
theorem dX10_dealt_31 : decode cX10_dealt 31 = .ok (.iload_n 1, 1) := by decide +kernel
theorem dX10_dealt_32 : decode cX10_dealt 32 = .ok (.invokevirtual 127, 3) := by decide +kernel
theorem dX10_dealt_35 : decode cX10_dealt 35 = .ok (.aload_n 0, 1) := by decide +kernel
theorem dX10_dealt_36 : decode cX10_dealt 36 = .ok (.getfield 16, 3) := by decide +kernel
theorem dX10_dealt_39 : decode cX10_dealt 39 = .ok (.iload_n 2, 1) := by decide +kernel
theorem dX10_dealt_40 : decode cX10_dealt 40 = .ok (.iaload, 1) := by decide +kernel
theorem dX10_dealt_41 : decode cX10_dealt 41 = .ok (.ireturn, 1) := by decide +kernel
theorem dX10_layNumbers_0 : decode cX10_layNumbers 0 = .ok (.aload_n 0, 1) := by decide +kernel
theorem dX10_layNumbers_1 : decode cX10_layNumbers 1 = .ok (.iconst 0, 1) := by decide +kernel
theorem dX10_layNumbers_2 : decode cX10_layNumbers 2 = .ok (.putfield 131, 3) := by decide +kernel
theorem dX10_layNumbers_5 : decode cX10_layNumbers 5 = .ok (.iconst 0, 1) := by decide +kernel
theorem dX10_layNumbers_6 : decode cX10_layNumbers 6 = .ok (.istore_n 2, 1) := by decide +kernel
theorem dX10_layNumbers_7 : decode cX10_layNumbers 7 = .ok (.iload_n 2, 1) := by decide +kernel
theorem dX10_layNumbers_8 : decode cX10_layNumbers 8 = .ok (.iload_n 1, 1) := by decide +kernel
theorem dX10_layNumbers_9 : decode cX10_layNumbers 9 = .ok (.if_icmp .ge 55, 3) := by decide +kernel
theorem dX10_layNumbers_12 : decode cX10_layNumbers 12 = .ok (.aload_n 0, 1) := by decide +kernel
theorem dX10_layNumbers_13 : decode cX10_layNumbers 13 = .ok (.getfield 16, 3) := by decide +kernel
theorem dX10_layNumbers_16 : decode cX10_layNumbers 16 = .ok (.iload_n 2, 1) := by decide +kernel
theorem dX10_layNumbers_17 : decode cX10_layNumbers 17 = .ok (.iaload, 1) := by decide +kernel
theorem dX10_layNumbers_18 : decode cX10_layNumbers 18 = .ok (.ldc 53, 2) := by decide +kernel
theorem dX10_layNumbers_20 : decode cX10_layNumbers 20 = .ok (.if_icmp .eq 38, 3) := by decide +kernel
theorem dX10_layNumbers_23 : decode cX10_layNumbers 23 = .ok (.aload_n 0, 1) := by decide +kernel
theorem dX10_layNumbers_24 : decode cX10_layNumbers 24 = .ok (.getfield 22, 3) := by decide +kernel
theorem dX10_layNumbers_27 : decode cX10_layNumbers 27 = .ok (.aload_n 0, 1) := by decide +kernel
theorem dX10_layNumbers_28 : decode cX10_layNumbers 28 = .ok (.getfield 131, 3) := by decide +kernel
theorem dX10_layNumbers_31 : decode cX10_layNumbers 31 = .ok (.iload_n 2, 1) := by decide +kernel
theorem dX10_layNumbers_32 : decode cX10_layNumbers 32 = .ok (.iastore, 1) := by decide +kernel
theorem dX10_layNumbers_33 : decode cX10_layNumbers 33 = .ok (.aload_n 0, 1) := by decide +kernel
theorem dX10_layNumbers_34 : decode cX10_layNumbers 34 = .ok (.getfield 25, 3) := by decide +kernel
theorem dX10_layNumbers_37 : decode cX10_layNumbers 37 = .ok (.aload_n 0, 1) := by decide +kernel
theorem dX10_layNumbers_38 : decode cX10_layNumbers 38 = .ok (.getfield 131, 3) := by decide +kernel
theorem dX10_layNumbers_41 : decode cX10_layNumbers 41 = .ok (.aload_n 0, 1) := by decide +kernel
theorem dX10_layNumbers_42 : decode cX10_layNumbers 42 = .ok (.getfield 16, 3) := by decide +kernel
theorem dX10_layNumbers_45 : decode cX10_layNumbers 45 = .ok (.iload_n 2, 1) := by decide +kernel
theorem dX10_layNumbers_46 : decode cX10_layNumbers 46 = .ok (.iaload, 1) := by decide +kernel
theorem dX10_layNumbers_47 : decode cX10_layNumbers 47 = .ok (.iastore, 1) := by decide +kernel
theorem dX10_layNumbers_48 : decode cX10_layNumbers 48 = .ok (.aload_n 0, 1) := by decide +kernel
theorem dX10_layNumbers_49 : decode cX10_layNumbers 49 = .ok (.dup, 1) := by decide +kernel
theorem dX10_layNumbers_50 : decode cX10_layNumbers 50 = .ok (.getfield 131, 3) := by decide +kernel
theorem dX10_layNumbers_53 : decode cX10_layNumbers 53 = .ok (.iconst 1, 1) := by decide +kernel
theorem dX10_layNumbers_54 : decode cX10_layNumbers 54 = .ok (.iadd, 1) := by decide +kernel
theorem dX10_layNumbers_55 : decode cX10_layNumbers 55 = .ok (.putfield 131, 3) := by decide +kernel
theorem dX10_layNumbers_58 : decode cX10_layNumbers 58 = .ok (.iinc 2 1, 3) := by decide +kernel
theorem dX10_layNumbers_61 : decode cX10_layNumbers 61 = .ok (.goto (-54), 3) := by decide +kernel
theorem dX10_layNumbers_64 : decode cX10_layNumbers 64 = .ok (.return_, 1) := by decide +kernel
theorem dX10_layHeaps_0 : decode cX10_layHeaps 0 = .ok (.iconst 0, 1) := by decide +kernel
theorem dX10_layHeaps_1 : decode cX10_layHeaps 1 = .ok (.istore_n 2, 1) := by decide +kernel
theorem dX10_layHeaps_2 : decode cX10_layHeaps 2 = .ok (.iload_n 2, 1) := by decide +kernel
theorem dX10_layHeaps_3 : decode cX10_layHeaps 3 = .ok (.iload_n 1, 1) := by decide +kernel
theorem dX10_layHeaps_4 : decode cX10_layHeaps 4 = .ok (.if_icmp .ge 23, 3) := by decide +kernel
theorem dX10_layHeaps_7 : decode cX10_layHeaps 7 = .ok (.aload_n 0, 1) := by decide +kernel
theorem dX10_layHeaps_8 : decode cX10_layHeaps 8 = .ok (.getfield 28, 3) := by decide +kernel
theorem dX10_layHeaps_11 : decode cX10_layHeaps 11 = .ok (.iload_n 2, 1) := by decide +kernel
theorem dX10_layHeaps_12 : decode cX10_layHeaps 12 = .ok (.lconst 0, 1) := by decide +kernel
theorem dX10_layHeaps_13 : decode cX10_layHeaps 13 = .ok (.lastore, 1) := by decide +kernel
theorem dX10_layHeaps_14 : decode cX10_layHeaps 14 = .ok (.aload_n 0, 1) := by decide +kernel
theorem dX10_layHeaps_15 : decode cX10_layHeaps 15 = .ok (.getfield 32, 3) := by decide +kernel
theorem dX10_layHeaps_18 : decode cX10_layHeaps 18 = .ok (.iload_n 2, 1) := by decide +kernel
theorem dX10_layHeaps_19 : decode cX10_layHeaps 19 = .ok (.iconst 0, 1) := by decide +kernel
theorem dX10_layHeaps_20 : decode cX10_layHeaps 20 = .ok (.iastore, 1) := by decide +kernel
theorem dX10_layHeaps_21 : decode cX10_layHeaps 21 = .ok (.iinc 2 1, 3) := by decide +kernel
theorem dX10_layHeaps_24 : decode cX10_layHeaps 24 = .ok (.goto (-22), 3) := by decide +kernel
theorem dX10_layHeaps_27 : decode cX10_layHeaps 27 = .ok (.iconst 0, 1) := by decide +kernel
theorem dX10_layHeaps_28 : decode cX10_layHeaps 28 = .ok (.istore_n 2, 1) := by decide +kernel
theorem dX10_layHeaps_29 : decode cX10_layHeaps 29 = .ok (.iload_n 2, 1) := by decide +kernel
theorem dX10_layHeaps_30 : decode cX10_layHeaps 30 = .ok (.aload_n 0, 1) := by decide +kernel
theorem dX10_layHeaps_31 : decode cX10_layHeaps 31 = .ok (.getfield 131, 3) := by decide +kernel
theorem dX10_layHeaps_34 : decode cX10_layHeaps 34 = .ok (.if_icmp .ge 49, 3) := by decide +kernel
theorem dX10_layHeaps_37 : decode cX10_layHeaps 37 = .ok (.aload_n 0, 1) := by decide +kernel
theorem dX10_layHeaps_38 : decode cX10_layHeaps 38 = .ok (.getfield 28, 3) := by decide +kernel
theorem dX10_layHeaps_41 : decode cX10_layHeaps 41 = .ok (.aload_n 0, 1) := by decide +kernel
theorem dX10_layHeaps_42 : decode cX10_layHeaps 42 = .ok (.getfield 22, 3) := by decide +kernel
theorem dX10_layHeaps_45 : decode cX10_layHeaps 45 = .ok (.iload_n 2, 1) := by decide +kernel
theorem dX10_layHeaps_46 : decode cX10_layHeaps 46 = .ok (.iaload, 1) := by decide +kernel
theorem dX10_layHeaps_47 : decode cX10_layHeaps 47 = .ok (.iload_n 1, 1) := by decide +kernel
theorem dX10_layHeaps_48 : decode cX10_layHeaps 48 = .ok (.irem, 1) := by decide +kernel
theorem dX10_layHeaps_49 : decode cX10_layHeaps 49 = .ok (.dup2, 1) := by decide +kernel
theorem dX10_layHeaps_50 : decode cX10_layHeaps 50 = .ok (.laload, 1) := by decide +kernel
theorem dX10_layHeaps_51 : decode cX10_layHeaps 51 = .ok (.aload_n 0, 1) := by decide +kernel
theorem dX10_layHeaps_52 : decode cX10_layHeaps 52 = .ok (.getfield 25, 3) := by decide +kernel
theorem dX10_layHeaps_55 : decode cX10_layHeaps 55 = .ok (.iload_n 2, 1) := by decide +kernel
theorem dX10_layHeaps_56 : decode cX10_layHeaps 56 = .ok (.iaload, 1) := by decide +kernel
theorem dX10_layHeaps_57 : decode cX10_layHeaps 57 = .ok (.i2l, 1) := by decide +kernel
theorem dX10_layHeaps_58 : decode cX10_layHeaps 58 = .ok (.ladd, 1) := by decide +kernel
theorem dX10_layHeaps_59 : decode cX10_layHeaps 59 = .ok (.lastore, 1) := by decide +kernel
theorem dX10_layHeaps_60 : decode cX10_layHeaps 60 = .ok (.aload_n 0, 1) := by decide +kernel
theorem dX10_layHeaps_61 : decode cX10_layHeaps 61 = .ok (.getfield 32, 3) := by decide +kernel
theorem dX10_layHeaps_64 : decode cX10_layHeaps 64 = .ok (.aload_n 0, 1) := by decide +kernel
theorem dX10_layHeaps_65 : decode cX10_layHeaps 65 = .ok (.getfield 22, 3) := by decide +kernel
theorem dX10_layHeaps_68 : decode cX10_layHeaps 68 = .ok (.iload_n 2, 1) := by decide +kernel
theorem dX10_layHeaps_69 : decode cX10_layHeaps 69 = .ok (.iaload, 1) := by decide +kernel
theorem dX10_layHeaps_70 : decode cX10_layHeaps 70 = .ok (.iload_n 1, 1) := by decide +kernel
theorem dX10_layHeaps_71 : decode cX10_layHeaps 71 = .ok (.irem, 1) := by decide +kernel
theorem dX10_layHeaps_72 : decode cX10_layHeaps 72 = .ok (.dup2, 1) := by decide +kernel
theorem dX10_layHeaps_73 : decode cX10_layHeaps 73 = .ok (.iaload, 1) := by decide +kernel
theorem dX10_layHeaps_74 : decode cX10_layHeaps 74 = .ok (.iconst 1, 1) := by decide +kernel
theorem dX10_layHeaps_75 : decode cX10_layHeaps 75 = .ok (.iadd, 1) := by decide +kernel
theorem dX10_layHeaps_76 : decode cX10_layHeaps 76 = .ok (.iastore, 1) := by decide +kernel
theorem dX10_layHeaps_77 : decode cX10_layHeaps 77 = .ok (.iinc 2 1, 3) := by decide +kernel
theorem dX10_layHeaps_80 : decode cX10_layHeaps 80 = .ok (.goto (-51), 3) := by decide +kernel
theorem dX10_layHeaps_83 : decode cX10_layHeaps 83 = .ok (.return_, 1) := by decide +kernel
theorem dX10_sumOf_0 : decode cX10_sumOf 0 = .ok (.lconst 0, 1) := by decide +kernel
theorem dX10_sumOf_1 : decode cX10_sumOf 1 = .ok (.lstore_n 1, 1) := by decide +kernel
theorem dX10_sumOf_2 : decode cX10_sumOf 2 = .ok (.iconst 0, 1) := by decide +kernel
theorem dX10_sumOf_3 : decode cX10_sumOf 3 = .ok (.istore_n 3, 1) := by decide +kernel
theorem dX10_sumOf_4 : decode cX10_sumOf 4 = .ok (.iload_n 3, 1) := by decide +kernel
theorem dX10_sumOf_5 : decode cX10_sumOf 5 = .ok (.aload_n 0, 1) := by decide +kernel
theorem dX10_sumOf_6 : decode cX10_sumOf 6 = .ok (.getfield 131, 3) := by decide +kernel
theorem dX10_sumOf_9 : decode cX10_sumOf 9 = .ok (.if_icmp .ge 19, 3) := by decide +kernel
theorem dX10_sumOf_12 : decode cX10_sumOf 12 = .ok (.lload_n 1, 1) := by decide +kernel
theorem dX10_sumOf_13 : decode cX10_sumOf 13 = .ok (.aload_n 0, 1) := by decide +kernel
theorem dX10_sumOf_14 : decode cX10_sumOf 14 = .ok (.getfield 25, 3) := by decide +kernel
theorem dX10_sumOf_17 : decode cX10_sumOf 17 = .ok (.iload_n 3, 1) := by decide +kernel
theorem dX10_sumOf_18 : decode cX10_sumOf 18 = .ok (.iaload, 1) := by decide +kernel
theorem dX10_sumOf_19 : decode cX10_sumOf 19 = .ok (.i2l, 1) := by decide +kernel
theorem dX10_sumOf_20 : decode cX10_sumOf 20 = .ok (.ladd, 1) := by decide +kernel
theorem dX10_sumOf_21 : decode cX10_sumOf 21 = .ok (.lstore_n 1, 1) := by decide +kernel
theorem dX10_sumOf_22 : decode cX10_sumOf 22 = .ok (.iinc 3 1, 3) := by decide +kernel
theorem dX10_sumOf_25 : decode cX10_sumOf 25 = .ok (.goto (-21), 3) := by decide +kernel
theorem dX10_sumOf_28 : decode cX10_sumOf 28 = .ok (.lload_n 1, 1) := by decide +kernel
theorem dX10_sumOf_29 : decode cX10_sumOf 29 = .ok (.lreturn, 1) := by decide +kernel
theorem dX10_upperOf_0 : decode cX10_upperOf 0 = .ok (.aload_n 0, 1) := by decide +kernel
theorem dX10_upperOf_1 : decode cX10_upperOf 1 = .ok (.iload_n 1, 1) := by decide +kernel
theorem dX10_upperOf_2 : decode cX10_upperOf 2 = .ok (.invokevirtual 134, 3) := by decide +kernel
theorem dX10_upperOf_5 : decode cX10_upperOf 5 = .ok (.aload_n 0, 1) := by decide +kernel
theorem dX10_upperOf_6 : decode cX10_upperOf 6 = .ok (.invokevirtual 137, 3) := by decide +kernel
theorem dX10_upperOf_9 : decode cX10_upperOf 9 = .ok (.lstore_n 2, 1) := by decide +kernel
theorem dX10_upperOf_10 : decode cX10_upperOf 10 = .ok (.lload_n 2, 1) := by decide +kernel
theorem dX10_upperOf_11 : decode cX10_upperOf 11 = .ok (.lneg, 1) := by decide +kernel
theorem dX10_upperOf_12 : decode cX10_upperOf 12 = .ok (.lload_n 2, 1) := by decide +kernel
theorem dX10_upperOf_13 : decode cX10_upperOf 13 = .ok (.lmul, 1) := by decide +kernel
theorem dX10_upperOf_14 : decode cX10_upperOf 14 = .ok (.ldc2_w 141, 3) := by decide +kernel
theorem dX10_upperOf_17 : decode cX10_upperOf 17 = .ok (.lmul, 1) := by decide +kernel
theorem dX10_upperOf_18 : decode cX10_upperOf 18 = .ok (.lstore 4, 2) := by decide +kernel
theorem dX10_upperOf_20 : decode cX10_upperOf 20 = .ok (.iconst 0, 1) := by decide +kernel
theorem dX10_upperOf_21 : decode cX10_upperOf 21 = .ok (.istore 6, 2) := by decide +kernel
theorem dX10_upperOf_23 : decode cX10_upperOf 23 = .ok (.iload 6, 2) := by decide +kernel
theorem dX10_upperOf_25 : decode cX10_upperOf 25 = .ok (.iload_n 1, 1) := by decide +kernel
theorem dX10_upperOf_26 : decode cX10_upperOf 26 = .ok (.if_icmp .ge 62, 3) := by decide +kernel
theorem dX10_upperOf_29 : decode cX10_upperOf 29 = .ok (.lload 4, 2) := by decide +kernel
theorem dX10_upperOf_31 : decode cX10_upperOf 31 = .ok (.aload_n 0, 1) := by decide +kernel
theorem dX10_upperOf_32 : decode cX10_upperOf 32 = .ok (.getfield 32, 3) := by decide +kernel
theorem dX10_upperOf_35 : decode cX10_upperOf 35 = .ok (.iload 6, 2) := by decide +kernel
theorem dX10_upperOf_37 : decode cX10_upperOf 37 = .ok (.iaload, 1) := by decide +kernel
theorem dX10_upperOf_38 : decode cX10_upperOf 38 = .ok (.ifCond .ne 7, 3) := by decide +kernel
theorem dX10_upperOf_41 : decode cX10_upperOf 41 = .ok (.lconst 0, 1) := by decide +kernel
theorem dX10_upperOf_42 : decode cX10_upperOf 42 = .ok (.goto 37, 3) := by decide +kernel
theorem dX10_upperOf_45 : decode cX10_upperOf 45 = .ok (.aload_n 0, 1) := by decide +kernel
theorem dX10_upperOf_46 : decode cX10_upperOf 46 = .ok (.getfield 28, 3) := by decide +kernel
theorem dX10_upperOf_49 : decode cX10_upperOf 49 = .ok (.iload 6, 2) := by decide +kernel
theorem dX10_upperOf_51 : decode cX10_upperOf 51 = .ok (.laload, 1) := by decide +kernel
theorem dX10_upperOf_52 : decode cX10_upperOf 52 = .ok (.aload_n 0, 1) := by decide +kernel
theorem dX10_upperOf_53 : decode cX10_upperOf 53 = .ok (.getfield 28, 3) := by decide +kernel
theorem dX10_upperOf_56 : decode cX10_upperOf 56 = .ok (.iload 6, 2) := by decide +kernel
theorem dX10_upperOf_58 : decode cX10_upperOf 58 = .ok (.laload, 1) := by decide +kernel
theorem dX10_upperOf_59 : decode cX10_upperOf 59 = .ok (.lmul, 1) := by decide +kernel
theorem dX10_upperOf_60 : decode cX10_upperOf 60 = .ok (.ldc2_w 141, 3) := by decide +kernel
theorem dX10_upperOf_63 : decode cX10_upperOf 63 = .ok (.aload_n 0, 1) := by decide +kernel
theorem dX10_upperOf_64 : decode cX10_upperOf 64 = .ok (.getfield 32, 3) := by decide +kernel
theorem dX10_upperOf_67 : decode cX10_upperOf 67 = .ok (.iload 6, 2) := by decide +kernel
theorem dX10_upperOf_69 : decode cX10_upperOf 69 = .ok (.iaload, 1) := by decide +kernel
theorem dX10_upperOf_70 : decode cX10_upperOf 70 = .ok (.i2l, 1) := by decide +kernel
theorem dX10_upperOf_71 : decode cX10_upperOf 71 = .ok (.ldiv, 1) := by decide +kernel
theorem dX10_upperOf_72 : decode cX10_upperOf 72 = .ok (.lmul, 1) := by decide +kernel
theorem dX10_upperOf_73 : decode cX10_upperOf 73 = .ok (.aload_n 0, 1) := by decide +kernel
theorem dX10_upperOf_74 : decode cX10_upperOf 74 = .ok (.getfield 131, 3) := by decide +kernel
theorem dX10_upperOf_77 : decode cX10_upperOf 77 = .ok (.i2l, 1) := by decide +kernel
theorem dX10_upperOf_78 : decode cX10_upperOf 78 = .ok (.lmul, 1) := by decide +kernel
theorem dX10_upperOf_79 : decode cX10_upperOf 79 = .ok (.ladd, 1) := by decide +kernel
theorem dX10_upperOf_80 : decode cX10_upperOf 80 = .ok (.lstore 4, 2) := by decide +kernel
theorem dX10_upperOf_82 : decode cX10_upperOf 82 = .ok (.iinc 6 1, 3) := by decide +kernel
theorem dX10_upperOf_85 : decode cX10_upperOf 85 = .ok (.goto (-62), 3) := by decide +kernel
theorem dX10_upperOf_88 : decode cX10_upperOf 88 = .ok (.lload 4, 2) := by decide +kernel
theorem dX10_upperOf_90 : decode cX10_upperOf 90 = .ok (.lreturn, 1) := by decide +kernel
theorem dX10_lowerOf_0 : decode cX10_lowerOf 0 = .ok (.aload_n 0, 1) := by decide +kernel
theorem dX10_lowerOf_1 : decode cX10_lowerOf 1 = .ok (.invokevirtual 137, 3) := by decide +kernel
theorem dX10_lowerOf_4 : decode cX10_lowerOf 4 = .ok (.lstore_n 1, 1) := by decide +kernel
theorem dX10_lowerOf_5 : decode cX10_lowerOf 5 = .ok (.lconst 0, 1) := by decide +kernel
theorem dX10_lowerOf_6 : decode cX10_lowerOf 6 = .ok (.lstore_n 3, 1) := by decide +kernel
theorem dX10_lowerOf_7 : decode cX10_lowerOf 7 = .ok (.iconst 0, 1) := by decide +kernel
theorem dX10_lowerOf_8 : decode cX10_lowerOf 8 = .ok (.istore 5, 2) := by decide +kernel
theorem dX10_lowerOf_10 : decode cX10_lowerOf 10 = .ok (.iload 5, 2) := by decide +kernel
theorem dX10_lowerOf_12 : decode cX10_lowerOf 12 = .ok (.aload_n 0, 1) := by decide +kernel
theorem dX10_lowerOf_13 : decode cX10_lowerOf 13 = .ok (.getfield 131, 3) := by decide +kernel
theorem dX10_lowerOf_16 : decode cX10_lowerOf 16 = .ok (.if_icmp .ge 29, 3) := by decide +kernel
theorem dX10_lowerOf_19 : decode cX10_lowerOf 19 = .ok (.lload_n 3, 1) := by decide +kernel
theorem dX10_lowerOf_20 : decode cX10_lowerOf 20 = .ok (.aload_n 0, 1) := by decide +kernel
theorem dX10_lowerOf_21 : decode cX10_lowerOf 21 = .ok (.getfield 25, 3) := by decide +kernel
theorem dX10_lowerOf_24 : decode cX10_lowerOf 24 = .ok (.iload 5, 2) := by decide +kernel
theorem dX10_lowerOf_26 : decode cX10_lowerOf 26 = .ok (.iaload, 1) := by decide +kernel
theorem dX10_lowerOf_27 : decode cX10_lowerOf 27 = .ok (.i2l, 1) := by decide +kernel
theorem dX10_lowerOf_28 : decode cX10_lowerOf 28 = .ok (.aload_n 0, 1) := by decide +kernel
theorem dX10_lowerOf_29 : decode cX10_lowerOf 29 = .ok (.getfield 25, 3) := by decide +kernel
theorem dX10_lowerOf_32 : decode cX10_lowerOf 32 = .ok (.iload 5, 2) := by decide +kernel
theorem dX10_lowerOf_34 : decode cX10_lowerOf 34 = .ok (.iaload, 1) := by decide +kernel
theorem dX10_lowerOf_35 : decode cX10_lowerOf 35 = .ok (.i2l, 1) := by decide +kernel
theorem dX10_lowerOf_36 : decode cX10_lowerOf 36 = .ok (.lmul, 1) := by decide +kernel
theorem dX10_lowerOf_37 : decode cX10_lowerOf 37 = .ok (.ladd, 1) := by decide +kernel
theorem dX10_lowerOf_38 : decode cX10_lowerOf 38 = .ok (.lstore_n 3, 1) := by decide +kernel
theorem dX10_lowerOf_39 : decode cX10_lowerOf 39 = .ok (.iinc 5 1, 3) := by decide +kernel
theorem dX10_lowerOf_42 : decode cX10_lowerOf 42 = .ok (.goto (-32), 3) := by decide +kernel
theorem dX10_lowerOf_45 : decode cX10_lowerOf 45 = .ok (.lload_n 3, 1) := by decide +kernel
theorem dX10_lowerOf_46 : decode cX10_lowerOf 46 = .ok (.aload_n 0, 1) := by decide +kernel
theorem dX10_lowerOf_47 : decode cX10_lowerOf 47 = .ok (.getfield 131, 3) := by decide +kernel
theorem dX10_lowerOf_50 : decode cX10_lowerOf 50 = .ok (.i2l, 1) := by decide +kernel
theorem dX10_lowerOf_51 : decode cX10_lowerOf 51 = .ok (.lmul, 1) := by decide +kernel
theorem dX10_lowerOf_52 : decode cX10_lowerOf 52 = .ok (.lload_n 1, 1) := by decide +kernel
theorem dX10_lowerOf_53 : decode cX10_lowerOf 53 = .ok (.lload_n 1, 1) := by decide +kernel
theorem dX10_lowerOf_54 : decode cX10_lowerOf 54 = .ok (.lmul, 1) := by decide +kernel
theorem dX10_lowerOf_55 : decode cX10_lowerOf 55 = .ok (.lsub, 1) := by decide +kernel
theorem dX10_lowerOf_56 : decode cX10_lowerOf 56 = .ok (.ldc2_w 141, 3) := by decide +kernel
theorem dX10_lowerOf_59 : decode cX10_lowerOf 59 = .ok (.lmul, 1) := by decide +kernel
theorem dX10_lowerOf_60 : decode cX10_lowerOf 60 = .ok (.lreturn, 1) := by decide +kernel
theorem dX10_isLength_0 : decode cX10_isLength 0 = .ok (.iload_n 0, 1) := by decide +kernel
theorem dX10_isLength_1 : decode cX10_isLength 1 = .ok (.i2l, 1) := by decide +kernel
theorem dX10_isLength_2 : decode cX10_isLength 2 = .ok (.ldc2_w 143, 3) := by decide +kernel
theorem dX10_isLength_5 : decode cX10_isLength 5 = .ok (.ldc2_w 145, 3) := by decide +kernel
theorem dX10_isLength_8 : decode cX10_isLength 8 = .ok (.invokestatic 58, 3) := by decide +kernel
theorem dX10_isLength_11 : decode cX10_isLength 11 = .ok (.ireturn, 1) := by decide +kernel
theorem dX10_share_0 : decode cX10_share 0 = .ok (.iload_n 1, 1) := by decide +kernel
theorem dX10_share_1 : decode cX10_share 1 = .ok (.invokestatic 66, 3) := by decide +kernel
theorem dX10_share_4 : decode cX10_share 4 = .ok (.ifCond .ne 7, 3) := by decide +kernel
theorem dX10_share_7 : decode cX10_share 7 = .ok (.ldc2_w 147, 3) := by decide +kernel
theorem dX10_share_10 : decode cX10_share 10 = .ok (.lreturn, 1) := by decide +kernel
theorem dX10_share_11 : decode cX10_share 11 = .ok (.iload_n 2, 1) := by decide +kernel
theorem dX10_share_12 : decode cX10_share 12 = .ok (.invokestatic 149, 3) := by decide +kernel
theorem dX10_share_15 : decode cX10_share 15 = .ok (.ifCond .eq 10, 3) := by decide +kernel
theorem dX10_share_18 : decode cX10_share 18 = .ok (.iload_n 3, 1) := by decide +kernel
theorem dX10_share_19 : decode cX10_share 19 = .ok (.invokestatic 152, 3) := by decide +kernel
theorem dX10_share_22 : decode cX10_share 22 = .ok (.ifCond .ne 7, 3) := by decide +kernel
theorem dX10_share_25 : decode cX10_share 25 = .ok (.ldc2_w 155, 3) := by decide +kernel
theorem dX10_share_28 : decode cX10_share 28 = .ok (.lreturn, 1) := by decide +kernel
theorem dX10_share_29 : decode cX10_share 29 = .ok (.aload_n 0, 1) := by decide +kernel
theorem dX10_share_30 : decode cX10_share 30 = .ok (.invokevirtual 122, 3) := by decide +kernel
theorem dX10_share_33 : decode cX10_share 33 = .ok (.ifCond .lt 7, 3) := by decide +kernel
theorem dX10_share_36 : decode cX10_share 36 = .ok (.ldc2_w 157, 3) := by decide +kernel
theorem dX10_share_39 : decode cX10_share 39 = .ok (.lreturn, 1) := by decide +kernel
theorem dX10_share_40 : decode cX10_share 40 = .ok (.aload_n 0, 1) := by decide +kernel
theorem dX10_share_41 : decode cX10_share 41 = .ok (.iload_n 1, 1) := by decide +kernel
theorem dX10_share_42 : decode cX10_share 42 = .ok (.invokevirtual 127, 3) := by decide +kernel
theorem dX10_share_45 : decode cX10_share 45 = .ok (.aload_n 0, 1) := by decide +kernel
theorem dX10_share_46 : decode cX10_share 46 = .ok (.bipush 24, 2) := by decide +kernel
theorem dX10_share_48 : decode cX10_share 48 = .ok (.invokevirtual 159, 3) := by decide +kernel
theorem dX10_share_51 : decode cX10_share 51 = .ok (.aload_n 0, 1) := by decide +kernel
theorem dX10_share_52 : decode cX10_share 52 = .ok (.invokevirtual 162, 3) := by decide +kernel
theorem dX10_share_55 : decode cX10_share 55 = .ok (.lstore 4, 2) := by decide +kernel
theorem dX10_share_57 : decode cX10_share 57 = .ok (.lload 4, 2) := by decide +kernel
theorem dX10_share_59 : decode cX10_share 59 = .ok (.lconst 0, 1) := by decide +kernel
theorem dX10_share_60 : decode cX10_share 60 = .ok (.lcmp, 1) := by decide +kernel
theorem dX10_share_61 : decode cX10_share 61 = .ok (.ifCond .ne 8, 3) := by decide +kernel
theorem dX10_share_64 : decode cX10_share 64 = .ok (.iload_n 3, 1) := by decide +kernel
theorem dX10_share_65 : decode cX10_share 65 = .ok (.i2l, 1) := by decide +kernel
theorem dX10_share_66 : decode cX10_share 66 = .ok (.goto 14, 3) := by decide +kernel
theorem dX10_share_69 : decode cX10_share 69 = .ok (.aload_n 0, 1) := by decide +kernel
theorem dX10_share_70 : decode cX10_share 70 = .ok (.iload_n 2, 1) := by decide +kernel
theorem dX10_share_71 : decode cX10_share 71 = .ok (.invokevirtual 165, 3) := by decide +kernel
theorem dX10_share_74 : decode cX10_share 74 = .ok (.lload 4, 2) := by decide +kernel
theorem dX10_share_76 : decode cX10_share 76 = .ok (.iload_n 3, 1) := by decide +kernel
theorem dX10_share_77 : decode cX10_share 77 = .ok (.invokestatic 169, 3) := by decide +kernel
theorem dX10_share_80 : decode cX10_share 80 = .ok (.lreturn, 1) := by decide +kernel
theorem dX10_greatestOf_0 : decode cX10_greatestOf 0 = .ok (.aload_n 0, 1) := by decide +kernel
theorem dX10_greatestOf_1 : decode cX10_greatestOf 1 = .ok (.iload_n 1, 1) := by decide +kernel
theorem dX10_greatestOf_2 : decode cX10_greatestOf 2 = .ok (.invokevirtual 165, 3) := by decide +kernel
theorem dX10_greatestOf_5 : decode cX10_greatestOf 5 = .ok (.lstore_n 3, 1) := by decide +kernel
theorem dX10_greatestOf_6 : decode cX10_greatestOf 6 = .ok (.iload_n 1, 1) := by decide +kernel
theorem dX10_greatestOf_7 : decode cX10_greatestOf 7 = .ok (.iconst 1, 1) := by decide +kernel
theorem dX10_greatestOf_8 : decode cX10_greatestOf 8 = .ok (.iadd, 1) := by decide +kernel
theorem dX10_greatestOf_9 : decode cX10_greatestOf 9 = .ok (.istore 5, 2) := by decide +kernel
theorem dX10_greatestOf_11 : decode cX10_greatestOf 11 = .ok (.iload 5, 2) := by decide +kernel
theorem dX10_greatestOf_13 : decode cX10_greatestOf 13 = .ok (.iload_n 2, 1) := by decide +kernel
theorem dX10_greatestOf_14 : decode cX10_greatestOf 14 = .ok (.if_icmp .gt 31, 3) := by decide +kernel
theorem dX10_greatestOf_17 : decode cX10_greatestOf 17 = .ok (.aload_n 0, 1) := by decide +kernel
theorem dX10_greatestOf_18 : decode cX10_greatestOf 18 = .ok (.iload 5, 2) := by decide +kernel
theorem dX10_greatestOf_20 : decode cX10_greatestOf 20 = .ok (.invokevirtual 165, 3) := by decide +kernel
theorem dX10_greatestOf_23 : decode cX10_greatestOf 23 = .ok (.lstore 6, 2) := by decide +kernel
theorem dX10_greatestOf_25 : decode cX10_greatestOf 25 = .ok (.lload 6, 2) := by decide +kernel
theorem dX10_greatestOf_27 : decode cX10_greatestOf 27 = .ok (.lload_n 3, 1) := by decide +kernel
theorem dX10_greatestOf_28 : decode cX10_greatestOf 28 = .ok (.lcmp, 1) := by decide +kernel
theorem dX10_greatestOf_29 : decode cX10_greatestOf 29 = .ok (.ifCond .le 8, 3) := by decide +kernel
theorem dX10_greatestOf_32 : decode cX10_greatestOf 32 = .ok (.lload 6, 2) := by decide +kernel
theorem dX10_greatestOf_34 : decode cX10_greatestOf 34 = .ok (.goto 4, 3) := by decide +kernel
theorem dX10_greatestOf_37 : decode cX10_greatestOf 37 = .ok (.lload_n 3, 1) := by decide +kernel
theorem dX10_greatestOf_38 : decode cX10_greatestOf 38 = .ok (.lstore_n 3, 1) := by decide +kernel
theorem dX10_greatestOf_39 : decode cX10_greatestOf 39 = .ok (.iinc 5 1, 3) := by decide +kernel
theorem dX10_greatestOf_42 : decode cX10_greatestOf 42 = .ok (.goto (-31), 3) := by decide +kernel
theorem dX10_greatestOf_45 : decode cX10_greatestOf 45 = .ok (.lload_n 3, 1) := by decide +kernel
theorem dX10_greatestOf_46 : decode cX10_greatestOf 46 = .ok (.lreturn, 1) := by decide +kernel
theorem dX10_exchange_0 : decode cX10_exchange 0 = .ok (.aload_n 0, 1) := by decide +kernel
theorem dX10_exchange_1 : decode cX10_exchange 1 = .ok (.getfield 25, 3) := by decide +kernel
theorem dX10_exchange_4 : decode cX10_exchange 4 = .ok (.iload_n 1, 1) := by decide +kernel
theorem dX10_exchange_5 : decode cX10_exchange 5 = .ok (.iaload, 1) := by decide +kernel
theorem dX10_exchange_6 : decode cX10_exchange 6 = .ok (.istore_n 3, 1) := by decide +kernel
theorem dX10_exchange_7 : decode cX10_exchange 7 = .ok (.aload_n 0, 1) := by decide +kernel
theorem dX10_exchange_8 : decode cX10_exchange 8 = .ok (.getfield 25, 3) := by decide +kernel
theorem dX10_exchange_11 : decode cX10_exchange 11 = .ok (.iload_n 1, 1) := by decide +kernel
theorem dX10_exchange_12 : decode cX10_exchange 12 = .ok (.aload_n 0, 1) := by decide +kernel
theorem dX10_exchange_13 : decode cX10_exchange 13 = .ok (.getfield 25, 3) := by decide +kernel
theorem dX10_exchange_16 : decode cX10_exchange 16 = .ok (.iload_n 2, 1) := by decide +kernel
theorem dX10_exchange_17 : decode cX10_exchange 17 = .ok (.iaload, 1) := by decide +kernel
theorem dX10_exchange_18 : decode cX10_exchange 18 = .ok (.iastore, 1) := by decide +kernel
theorem dX10_exchange_19 : decode cX10_exchange 19 = .ok (.aload_n 0, 1) := by decide +kernel
theorem dX10_exchange_20 : decode cX10_exchange 20 = .ok (.getfield 25, 3) := by decide +kernel
theorem dX10_exchange_23 : decode cX10_exchange 23 = .ok (.iload_n 2, 1) := by decide +kernel
theorem dX10_exchange_24 : decode cX10_exchange 24 = .ok (.iload_n 3, 1) := by decide +kernel
theorem dX10_exchange_25 : decode cX10_exchange 25 = .ok (.iastore, 1) := by decide +kernel
theorem dX10_exchange_26 : decode cX10_exchange 26 = .ok (.return_, 1) := by decide +kernel
theorem dX10_oddsOf_0 : decode cX10_oddsOf 0 = .ok (.aload_n 0, 1) := by decide +kernel
theorem dX10_oddsOf_1 : decode cX10_oddsOf 1 = .ok (.iload_n 1, 1) := by decide +kernel
theorem dX10_oddsOf_2 : decode cX10_oddsOf 2 = .ok (.iload_n 2, 1) := by decide +kernel
theorem dX10_oddsOf_3 : decode cX10_oddsOf 3 = .ok (.invokevirtual 173, 3) := by decide +kernel
theorem dX10_oddsOf_6 : decode cX10_oddsOf 6 = .ok (.lstore 4, 2) := by decide +kernel
theorem dX10_oddsOf_8 : decode cX10_oddsOf 8 = .ok (.aload_n 0, 1) := by decide +kernel
theorem dX10_oddsOf_9 : decode cX10_oddsOf 9 = .ok (.invokevirtual 162, 3) := by decide +kernel
theorem dX10_oddsOf_12 : decode cX10_oddsOf 12 = .ok (.lconst 0, 1) := by decide +kernel
theorem dX10_oddsOf_13 : decode cX10_oddsOf 13 = .ok (.lcmp, 1) := by decide +kernel
theorem dX10_oddsOf_14 : decode cX10_oddsOf 14 = .ok (.ifCond .ne 7, 3) := by decide +kernel
theorem dX10_oddsOf_17 : decode cX10_oddsOf 17 = .ok (.iconst 1, 1) := by decide +kernel
theorem dX10_oddsOf_18 : decode cX10_oddsOf 18 = .ok (.goto 4, 3) := by decide +kernel
theorem dX10_oddsOf_21 : decode cX10_oddsOf 21 = .ok (.iconst 0, 1) := by decide +kernel
theorem dX10_oddsOf_22 : decode cX10_oddsOf 22 = .ok (.istore 6, 2) := by decide +kernel
theorem dX10_oddsOf_24 : decode cX10_oddsOf 24 = .ok (.iconst 1, 1) := by decide +kernel
theorem dX10_oddsOf_25 : decode cX10_oddsOf 25 = .ok (.istore 7, 2) := by decide +kernel
theorem dX10_oddsOf_27 : decode cX10_oddsOf 27 = .ok (.iconst 1, 1) := by decide +kernel
theorem dX10_oddsOf_28 : decode cX10_oddsOf 28 = .ok (.istore 8, 2) := by decide +kernel
theorem dX10_oddsOf_30 : decode cX10_oddsOf 30 = .ok (.iconst 0, 1) := by decide +kernel
theorem dX10_oddsOf_31 : decode cX10_oddsOf 31 = .ok (.istore 9, 2) := by decide +kernel
theorem dX10_oddsOf_33 : decode cX10_oddsOf 33 = .ok (.iload 9, 2) := by decide +kernel
theorem dX10_oddsOf_35 : decode cX10_oddsOf 35 = .ok (.aload_n 0, 1) := by decide +kernel
theorem dX10_oddsOf_36 : decode cX10_oddsOf 36 = .ok (.getfield 131, 3) := by decide +kernel
theorem dX10_oddsOf_39 : decode cX10_oddsOf 39 = .ok (.if_icmp .ge 17, 3) := by decide +kernel
theorem dX10_oddsOf_42 : decode cX10_oddsOf 42 = .ok (.aload_n 0, 1) := by decide +kernel
theorem dX10_oddsOf_43 : decode cX10_oddsOf 43 = .ok (.getfield 35, 3) := by decide +kernel
theorem dX10_oddsOf_46 : decode cX10_oddsOf 46 = .ok (.iload 9, 2) := by decide +kernel
theorem dX10_oddsOf_48 : decode cX10_oddsOf 48 = .ok (.iconst 0, 1) := by decide +kernel
theorem dX10_oddsOf_49 : decode cX10_oddsOf 49 = .ok (.iastore, 1) := by decide +kernel
theorem dX10_oddsOf_50 : decode cX10_oddsOf 50 = .ok (.iinc 9 1, 3) := by decide +kernel
theorem dX10_oddsOf_53 : decode cX10_oddsOf 53 = .ok (.goto (-20), 3) := by decide +kernel
theorem dX10_oddsOf_56 : decode cX10_oddsOf 56 = .ok (.iconst 0, 1) := by decide +kernel
theorem dX10_oddsOf_57 : decode cX10_oddsOf 57 = .ok (.istore 9, 2) := by decide +kernel
theorem dX10_oddsOf_59 : decode cX10_oddsOf 59 = .ok (.iload 9, 2) := by decide +kernel
theorem dX10_oddsOf_61 : decode cX10_oddsOf 61 = .ok (.aload_n 0, 1) := by decide +kernel
theorem dX10_oddsOf_62 : decode cX10_oddsOf 62 = .ok (.getfield 131, 3) := by decide +kernel
theorem dX10_oddsOf_65 : decode cX10_oddsOf 65 = .ok (.if_icmp .ge 100, 3) := by decide +kernel
theorem dX10_oddsOf_68 : decode cX10_oddsOf 68 = .ok (.aload_n 0, 1) := by decide +kernel
theorem dX10_oddsOf_69 : decode cX10_oddsOf 69 = .ok (.getfield 35, 3) := by decide +kernel
theorem dX10_oddsOf_72 : decode cX10_oddsOf 72 = .ok (.iload 9, 2) := by decide +kernel
theorem dX10_oddsOf_74 : decode cX10_oddsOf 74 = .ok (.iaload, 1) := by decide +kernel
theorem dX10_oddsOf_75 : decode cX10_oddsOf 75 = .ok (.iload 9, 2) := by decide +kernel
theorem dX10_oddsOf_77 : decode cX10_oddsOf 77 = .ok (.if_icmp .ge 74, 3) := by decide +kernel
theorem dX10_oddsOf_80 : decode cX10_oddsOf 80 = .ok (.aload_n 0, 1) := by decide +kernel
theorem dX10_oddsOf_81 : decode cX10_oddsOf 81 = .ok (.iload 9, 2) := by decide +kernel
theorem dX10_oddsOf_83 : decode cX10_oddsOf 83 = .ok (.iconst 2, 1) := by decide +kernel
theorem dX10_oddsOf_84 : decode cX10_oddsOf 84 = .ok (.irem, 1) := by decide +kernel
theorem dX10_oddsOf_85 : decode cX10_oddsOf 85 = .ok (.ifCond .ne 7, 3) := by decide +kernel
theorem dX10_oddsOf_88 : decode cX10_oddsOf 88 = .ok (.iconst 0, 1) := by decide +kernel
theorem dX10_oddsOf_89 : decode cX10_oddsOf 89 = .ok (.goto 10, 3) := by decide +kernel
theorem dX10_oddsOf_92 : decode cX10_oddsOf 92 = .ok (.aload_n 0, 1) := by decide +kernel
theorem dX10_oddsOf_93 : decode cX10_oddsOf 93 = .ok (.getfield 35, 3) := by decide +kernel
theorem dX10_oddsOf_96 : decode cX10_oddsOf 96 = .ok (.iload 9, 2) := by decide +kernel
theorem dX10_oddsOf_98 : decode cX10_oddsOf 98 = .ok (.iaload, 1) := by decide +kernel
theorem dX10_oddsOf_99 : decode cX10_oddsOf 99 = .ok (.iload 9, 2) := by decide +kernel
theorem dX10_oddsOf_101 : decode cX10_oddsOf 101 = .ok (.invokevirtual 177, 3) := by decide +kernel
theorem dX10_oddsOf_104 : decode cX10_oddsOf 104 = .ok (.iinc 7 1, 3) := by decide +kernel
theorem dX10_oddsOf_107 : decode cX10_oddsOf 107 = .ok (.iload 8, 2) := by decide +kernel
theorem dX10_oddsOf_109 : decode cX10_oddsOf 109 = .ok (.iload 6, 2) := by decide +kernel
theorem dX10_oddsOf_111 : decode cX10_oddsOf 111 = .ok (.ifCond .ne 15, 3) := by decide +kernel
theorem dX10_oddsOf_114 : decode cX10_oddsOf 114 = .ok (.aload_n 0, 1) := by decide +kernel
theorem dX10_oddsOf_115 : decode cX10_oddsOf 115 = .ok (.iload_n 1, 1) := by decide +kernel
theorem dX10_oddsOf_116 : decode cX10_oddsOf 116 = .ok (.iload_n 2, 1) := by decide +kernel
theorem dX10_oddsOf_117 : decode cX10_oddsOf 117 = .ok (.invokevirtual 173, 3) := by decide +kernel
theorem dX10_oddsOf_120 : decode cX10_oddsOf 120 = .ok (.lload 4, 2) := by decide +kernel
theorem dX10_oddsOf_122 : decode cX10_oddsOf 122 = .ok (.lcmp, 1) := by decide +kernel
theorem dX10_oddsOf_123 : decode cX10_oddsOf 123 = .ok (.ifCond .lt 7, 3) := by decide +kernel
theorem dX10_oddsOf_126 : decode cX10_oddsOf 126 = .ok (.iconst 1, 1) := by decide +kernel
theorem dX10_oddsOf_127 : decode cX10_oddsOf 127 = .ok (.goto 4, 3) := by decide +kernel
theorem dX10_oddsOf_130 : decode cX10_oddsOf 130 = .ok (.iconst 0, 1) := by decide +kernel
theorem dX10_oddsOf_131 : decode cX10_oddsOf 131 = .ok (.iadd, 1) := by decide +kernel
theorem dX10_oddsOf_132 : decode cX10_oddsOf 132 = .ok (.istore 8, 2) := by decide +kernel
theorem dX10_oddsOf_134 : decode cX10_oddsOf 134 = .ok (.aload_n 0, 1) := by decide +kernel
theorem dX10_oddsOf_135 : decode cX10_oddsOf 135 = .ok (.getfield 35, 3) := by decide +kernel
theorem dX10_oddsOf_138 : decode cX10_oddsOf 138 = .ok (.iload 9, 2) := by decide +kernel
theorem dX10_oddsOf_140 : decode cX10_oddsOf 140 = .ok (.dup2, 1) := by decide +kernel
theorem dX10_oddsOf_141 : decode cX10_oddsOf 141 = .ok (.iaload, 1) := by decide +kernel
theorem dX10_oddsOf_142 : decode cX10_oddsOf 142 = .ok (.iconst 1, 1) := by decide +kernel
theorem dX10_oddsOf_143 : decode cX10_oddsOf 143 = .ok (.iadd, 1) := by decide +kernel
theorem dX10_oddsOf_144 : decode cX10_oddsOf 144 = .ok (.iastore, 1) := by decide +kernel
theorem dX10_oddsOf_145 : decode cX10_oddsOf 145 = .ok (.iconst 0, 1) := by decide +kernel
theorem dX10_oddsOf_146 : decode cX10_oddsOf 146 = .ok (.istore 9, 2) := by decide +kernel
theorem dX10_oddsOf_148 : decode cX10_oddsOf 148 = .ok (.goto (-89), 3) := by decide +kernel
theorem dX10_oddsOf_151 : decode cX10_oddsOf 151 = .ok (.aload_n 0, 1) := by decide +kernel
theorem dX10_oddsOf_152 : decode cX10_oddsOf 152 = .ok (.getfield 35, 3) := by decide +kernel
theorem dX10_oddsOf_155 : decode cX10_oddsOf 155 = .ok (.iload 9, 2) := by decide +kernel
theorem dX10_oddsOf_157 : decode cX10_oddsOf 157 = .ok (.iconst 0, 1) := by decide +kernel
theorem dX10_oddsOf_158 : decode cX10_oddsOf 158 = .ok (.iastore, 1) := by decide +kernel
theorem dX10_oddsOf_159 : decode cX10_oddsOf 159 = .ok (.iinc 9 1, 3) := by decide +kernel
theorem dX10_oddsOf_162 : decode cX10_oddsOf 162 = .ok (.goto (-103), 3) := by decide +kernel
theorem dX10_oddsOf_165 : decode cX10_oddsOf 165 = .ok (.iload 8, 2) := by decide +kernel
theorem dX10_oddsOf_167 : decode cX10_oddsOf 167 = .ok (.i2l, 1) := by decide +kernel
theorem dX10_oddsOf_168 : decode cX10_oddsOf 168 = .ok (.iload 7, 2) := by decide +kernel
theorem dX10_oddsOf_170 : decode cX10_oddsOf 170 = .ok (.i2l, 1) := by decide +kernel
theorem dX10_oddsOf_171 : decode cX10_oddsOf 171 = .ok (.iload_n 3, 1) := by decide +kernel
theorem dX10_oddsOf_172 : decode cX10_oddsOf 172 = .ok (.invokestatic 169, 3) := by decide +kernel
theorem dX10_oddsOf_175 : decode cX10_oddsOf 175 = .ok (.lreturn, 1) := by decide +kernel
theorem dX10_odds_0 : decode cX10_odds 0 = .ok (.aload_n 0, 1) := by decide +kernel
theorem dX10_odds_1 : decode cX10_odds 1 = .ok (.iload_n 1, 1) := by decide +kernel
theorem dX10_odds_2 : decode cX10_odds 2 = .ok (.iload_n 2, 1) := by decide +kernel
theorem dX10_odds_3 : decode cX10_odds 3 = .ok (.iload_n 2, 1) := by decide +kernel
theorem dX10_odds_4 : decode cX10_odds 4 = .ok (.iload_n 3, 1) := by decide +kernel
theorem dX10_odds_5 : decode cX10_odds 5 = .ok (.invokevirtual 181, 3) := by decide +kernel
theorem dX10_odds_8 : decode cX10_odds 8 = .ok (.lreturn, 1) := by decide +kernel
theorem dX10_tried_0 : decode cX10_tried 0 = .ok (.iload_n 1, 1) := by decide +kernel
theorem dX10_tried_1 : decode cX10_tried 1 = .ok (.invokestatic 66, 3) := by decide +kernel
theorem dX10_tried_4 : decode cX10_tried 4 = .ok (.ifCond .ne 7, 3) := by decide +kernel
theorem dX10_tried_7 : decode cX10_tried 7 = .ok (.ldc2_w 147, 3) := by decide +kernel
theorem dX10_tried_10 : decode cX10_tried 10 = .ok (.lreturn, 1) := by decide +kernel
theorem dX10_tried_11 : decode cX10_tried 11 = .ok (.iload_n 2, 1) := by decide +kernel
theorem dX10_tried_12 : decode cX10_tried 12 = .ok (.invokestatic 149, 3) := by decide +kernel
theorem dX10_tried_15 : decode cX10_tried 15 = .ok (.ifCond .eq 23, 3) := by decide +kernel
theorem dX10_tried_18 : decode cX10_tried 18 = .ok (.iload_n 3, 1) := by decide +kernel
theorem dX10_tried_19 : decode cX10_tried 19 = .ok (.invokestatic 149, 3) := by decide +kernel
theorem dX10_tried_22 : decode cX10_tried 22 = .ok (.ifCond .eq 16, 3) := by decide +kernel
theorem dX10_tried_25 : decode cX10_tried 25 = .ok (.iload_n 2, 1) := by decide +kernel
theorem dX10_tried_26 : decode cX10_tried 26 = .ok (.iload_n 3, 1) := by decide +kernel
theorem dX10_tried_27 : decode cX10_tried 27 = .ok (.if_icmp .gt 11, 3) := by decide +kernel
theorem dX10_tried_30 : decode cX10_tried 30 = .ok (.iload 4, 2) := by decide +kernel
theorem dX10_tried_32 : decode cX10_tried 32 = .ok (.invokestatic 152, 3) := by decide +kernel
theorem dX10_tried_35 : decode cX10_tried 35 = .ok (.ifCond .ne 7, 3) := by decide +kernel
theorem dX10_tried_38 : decode cX10_tried 38 = .ok (.ldc2_w 155, 3) := by decide +kernel
theorem dX10_tried_41 : decode cX10_tried 41 = .ok (.lreturn, 1) := by decide +kernel
theorem dX10_tried_42 : decode cX10_tried 42 = .ok (.aload_n 0, 1) := by decide +kernel
theorem dX10_tried_43 : decode cX10_tried 43 = .ok (.invokevirtual 122, 3) := by decide +kernel
theorem dX10_tried_46 : decode cX10_tried 46 = .ok (.ifCond .lt 7, 3) := by decide +kernel
theorem dX10_tried_49 : decode cX10_tried 49 = .ok (.ldc2_w 157, 3) := by decide +kernel
theorem dX10_tried_52 : decode cX10_tried 52 = .ok (.lreturn, 1) := by decide +kernel
theorem dX10_tried_53 : decode cX10_tried 53 = .ok (.aload_n 0, 1) := by decide +kernel
theorem dX10_tried_54 : decode cX10_tried 54 = .ok (.iload_n 1, 1) := by decide +kernel
theorem dX10_tried_55 : decode cX10_tried 55 = .ok (.invokevirtual 127, 3) := by decide +kernel
theorem dX10_tried_58 : decode cX10_tried 58 = .ok (.aload_n 0, 1) := by decide +kernel
theorem dX10_tried_59 : decode cX10_tried 59 = .ok (.bipush 24, 2) := by decide +kernel
theorem dX10_tried_61 : decode cX10_tried 61 = .ok (.invokevirtual 159, 3) := by decide +kernel
theorem dX10_tried_64 : decode cX10_tried 64 = .ok (.aload_n 0, 1) := by decide +kernel
theorem dX10_tried_65 : decode cX10_tried 65 = .ok (.getfield 131, 3) := by decide +kernel
theorem dX10_tried_68 : decode cX10_tried 68 = .ok (.i2l, 1) := by decide +kernel
theorem dX10_tried_69 : decode cX10_tried 69 = .ok (.lconst 1, 1) := by decide +kernel
theorem dX10_tried_70 : decode cX10_tried 70 = .ok (.ldc2_w 185, 3) := by decide +kernel
theorem dX10_tried_73 : decode cX10_tried 73 = .ok (.invokestatic 58, 3) := by decide +kernel
theorem dX10_tried_76 : decode cX10_tried 76 = .ok (.ifCond .eq 14, 3) := by decide +kernel
theorem dX10_tried_79 : decode cX10_tried 79 = .ok (.aload_n 0, 1) := by decide +kernel
theorem dX10_tried_80 : decode cX10_tried 80 = .ok (.iload_n 2, 1) := by decide +kernel
theorem dX10_tried_81 : decode cX10_tried 81 = .ok (.iload_n 3, 1) := by decide +kernel
theorem dX10_tried_82 : decode cX10_tried 82 = .ok (.iload 4, 2) := by decide +kernel
theorem dX10_tried_84 : decode cX10_tried 84 = .ok (.invokevirtual 187, 3) := by decide +kernel
theorem dX10_tried_87 : decode cX10_tried 87 = .ok (.goto 6, 3) := by decide +kernel
theorem dX10_tried_90 : decode cX10_tried 90 = .ok (.ldc2_w 191, 3) := by decide +kernel
theorem dX10_tried_93 : decode cX10_tried 93 = .ok (.lreturn, 1) := by decide +kernel
theorem dX10_drawn_0 : decode cX10_drawn 0 = .ok (.iload_n 1, 1) := by decide +kernel
theorem dX10_drawn_1 : decode cX10_drawn 1 = .ok (.invokestatic 66, 3) := by decide +kernel
theorem dX10_drawn_4 : decode cX10_drawn 4 = .ok (.ifCond .ne 5, 3) := by decide +kernel
theorem dX10_drawn_7 : decode cX10_drawn 7 = .ok (.iconst (-1), 1) := by decide +kernel
theorem dX10_drawn_8 : decode cX10_drawn 8 = .ok (.ireturn, 1) := by decide +kernel
theorem dX10_drawn_9 : decode cX10_drawn 9 = .ok (.iload_n 2, 1) := by decide +kernel
theorem dX10_drawn_10 : decode cX10_drawn 10 = .ok (.invokestatic 149, 3) := by decide +kernel
theorem dX10_drawn_13 : decode cX10_drawn 13 = .ok (.ifCond .eq 28, 3) := by decide +kernel
theorem dX10_drawn_16 : decode cX10_drawn 16 = .ok (.iload_n 3, 1) := by decide +kernel
theorem dX10_drawn_17 : decode cX10_drawn 17 = .ok (.i2l, 1) := by decide +kernel
theorem dX10_drawn_18 : decode cX10_drawn 18 = .ok (.lconst 1, 1) := by decide +kernel
theorem dX10_drawn_19 : decode cX10_drawn 19 = .ok (.ldc2_w 193, 3) := by decide +kernel
theorem dX10_drawn_22 : decode cX10_drawn 22 = .ok (.invokestatic 58, 3) := by decide +kernel
theorem dX10_drawn_25 : decode cX10_drawn 25 = .ok (.ifCond .eq 16, 3) := by decide +kernel
theorem dX10_drawn_28 : decode cX10_drawn 28 = .ok (.iload 4, 2) := by decide +kernel
theorem dX10_drawn_30 : decode cX10_drawn 30 = .ok (.i2l, 1) := by decide +kernel
theorem dX10_drawn_31 : decode cX10_drawn 31 = .ok (.lconst 1, 1) := by decide +kernel
theorem dX10_drawn_32 : decode cX10_drawn 32 = .ok (.ldc2_w 195, 3) := by decide +kernel
theorem dX10_drawn_35 : decode cX10_drawn 35 = .ok (.invokestatic 58, 3) := by decide +kernel
theorem dX10_drawn_38 : decode cX10_drawn 38 = .ok (.ifCond .ne 6, 3) := by decide +kernel
theorem dX10_drawn_41 : decode cX10_drawn 41 = .ok (.bipush (-2), 2) := by decide +kernel
theorem dX10_drawn_43 : decode cX10_drawn 43 = .ok (.ireturn, 1) := by decide +kernel
theorem dX10_drawn_44 : decode cX10_drawn 44 = .ok (.aload_n 0, 1) := by decide +kernel
theorem dX10_drawn_45 : decode cX10_drawn 45 = .ok (.invokevirtual 122, 3) := by decide +kernel
theorem dX10_drawn_48 : decode cX10_drawn 48 = .ok (.ifCond .lt 6, 3) := by decide +kernel
theorem dX10_drawn_51 : decode cX10_drawn 51 = .ok (.bipush (-5), 2) := by decide +kernel
theorem dX10_drawn_53 : decode cX10_drawn 53 = .ok (.ireturn, 1) := by decide +kernel
theorem dX10_drawn_54 : decode cX10_drawn 54 = .ok (.aload_n 0, 1) := by decide +kernel
theorem dX10_drawn_55 : decode cX10_drawn 55 = .ok (.iload_n 1, 1) := by decide +kernel
theorem dX10_drawn_56 : decode cX10_drawn 56 = .ok (.invokevirtual 127, 3) := by decide +kernel
theorem dX10_drawn_59 : decode cX10_drawn 59 = .ok (.aload_n 0, 1) := by decide +kernel
theorem dX10_drawn_60 : decode cX10_drawn 60 = .ok (.bipush 24, 2) := by decide +kernel
theorem dX10_drawn_62 : decode cX10_drawn 62 = .ok (.invokevirtual 159, 3) := by decide +kernel
theorem dX10_drawn_65 : decode cX10_drawn 65 = .ok (.aload_n 0, 1) := by decide +kernel
theorem dX10_drawn_66 : decode cX10_drawn 66 = .ok (.iload_n 2, 1) := by decide +kernel
theorem dX10_drawn_67 : decode cX10_drawn 67 = .ok (.invokevirtual 165, 3) := by decide +kernel
theorem dX10_drawn_70 : decode cX10_drawn 70 = .ok (.lstore 5, 2) := by decide +kernel
theorem dX10_drawn_72 : decode cX10_drawn 72 = .ok (.aload_n 0, 1) := by decide +kernel
theorem dX10_drawn_73 : decode cX10_drawn 73 = .ok (.invokevirtual 162, 3) := by decide +kernel
theorem dX10_drawn_76 : decode cX10_drawn 76 = .ok (.lconst 0, 1) := by decide +kernel
theorem dX10_drawn_77 : decode cX10_drawn 77 = .ok (.lcmp, 1) := by decide +kernel
theorem dX10_drawn_78 : decode cX10_drawn 78 = .ok (.ifCond .ne 7, 3) := by decide +kernel
theorem dX10_drawn_81 : decode cX10_drawn 81 = .ok (.iconst 1, 1) := by decide +kernel
theorem dX10_drawn_82 : decode cX10_drawn 82 = .ok (.goto 4, 3) := by decide +kernel
theorem dX10_drawn_85 : decode cX10_drawn 85 = .ok (.iconst 0, 1) := by decide +kernel
theorem dX10_drawn_86 : decode cX10_drawn 86 = .ok (.istore 7, 2) := by decide +kernel
theorem dX10_drawn_88 : decode cX10_drawn 88 = .ok (.iload 4, 2) := by decide +kernel
theorem dX10_drawn_90 : decode cX10_drawn 90 = .ok (.i2l, 1) := by decide +kernel
theorem dX10_drawn_91 : decode cX10_drawn 91 = .ok (.lstore 8, 2) := by decide +kernel
theorem dX10_drawn_93 : decode cX10_drawn 93 = .ok (.iconst 0, 1) := by decide +kernel
theorem dX10_drawn_94 : decode cX10_drawn 94 = .ok (.istore 10, 2) := by decide +kernel
theorem dX10_drawn_96 : decode cX10_drawn 96 = .ok (.iconst 0, 1) := by decide +kernel
theorem dX10_drawn_97 : decode cX10_drawn 97 = .ok (.istore 11, 2) := by decide +kernel
theorem dX10_drawn_99 : decode cX10_drawn 99 = .ok (.iload 11, 2) := by decide +kernel
theorem dX10_drawn_101 : decode cX10_drawn 101 = .ok (.iload_n 3, 1) := by decide +kernel
theorem dX10_drawn_102 : decode cX10_drawn 102 = .ok (.if_icmp .ge 81, 3) := by decide +kernel
theorem dX10_drawn_105 : decode cX10_drawn 105 = .ok (.aload_n 0, 1) := by decide +kernel
theorem dX10_drawn_106 : decode cX10_drawn 106 = .ok (.getfield 131, 3) := by decide +kernel
theorem dX10_drawn_109 : decode cX10_drawn 109 = .ok (.iconst 1, 1) := by decide +kernel
theorem dX10_drawn_110 : decode cX10_drawn 110 = .ok (.isub, 1) := by decide +kernel
theorem dX10_drawn_111 : decode cX10_drawn 111 = .ok (.istore 12, 2) := by decide +kernel
theorem dX10_drawn_113 : decode cX10_drawn 113 = .ok (.iload 12, 2) := by decide +kernel
theorem dX10_drawn_115 : decode cX10_drawn 115 = .ok (.ifCond .le 36, 3) := by decide +kernel
theorem dX10_drawn_118 : decode cX10_drawn 118 = .ok (.lload 8, 2) := by decide +kernel
theorem dX10_drawn_120 : decode cX10_drawn 120 = .ok (.ldc2_w 197, 3) := by decide +kernel
theorem dX10_drawn_123 : decode cX10_drawn 123 = .ok (.lmul, 1) := by decide +kernel
theorem dX10_drawn_124 : decode cX10_drawn 124 = .ok (.ldc2_w 199, 3) := by decide +kernel
theorem dX10_drawn_127 : decode cX10_drawn 127 = .ok (.lrem, 1) := by decide +kernel
theorem dX10_drawn_128 : decode cX10_drawn 128 = .ok (.lstore 8, 2) := by decide +kernel
theorem dX10_drawn_130 : decode cX10_drawn 130 = .ok (.aload_n 0, 1) := by decide +kernel
theorem dX10_drawn_131 : decode cX10_drawn 131 = .ok (.iload 12, 2) := by decide +kernel
theorem dX10_drawn_133 : decode cX10_drawn 133 = .ok (.lload 8, 2) := by decide +kernel
theorem dX10_drawn_135 : decode cX10_drawn 135 = .ok (.iload 12, 2) := by decide +kernel
theorem dX10_drawn_137 : decode cX10_drawn 137 = .ok (.iconst 1, 1) := by decide +kernel
theorem dX10_drawn_138 : decode cX10_drawn 138 = .ok (.iadd, 1) := by decide +kernel
theorem dX10_drawn_139 : decode cX10_drawn 139 = .ok (.i2l, 1) := by decide +kernel
theorem dX10_drawn_140 : decode cX10_drawn 140 = .ok (.lrem, 1) := by decide +kernel
theorem dX10_drawn_141 : decode cX10_drawn 141 = .ok (.l2i, 1) := by decide +kernel
theorem dX10_drawn_142 : decode cX10_drawn 142 = .ok (.invokevirtual 177, 3) := by decide +kernel
theorem dX10_drawn_145 : decode cX10_drawn 145 = .ok (.iinc 12 (-1), 3) := by decide +kernel
theorem dX10_drawn_148 : decode cX10_drawn 148 = .ok (.goto (-35), 3) := by decide +kernel
theorem dX10_drawn_151 : decode cX10_drawn 151 = .ok (.iload 10, 2) := by decide +kernel
theorem dX10_drawn_153 : decode cX10_drawn 153 = .ok (.iload 7, 2) := by decide +kernel
theorem dX10_drawn_155 : decode cX10_drawn 155 = .ok (.ifCond .ne 14, 3) := by decide +kernel
theorem dX10_drawn_158 : decode cX10_drawn 158 = .ok (.aload_n 0, 1) := by decide +kernel
theorem dX10_drawn_159 : decode cX10_drawn 159 = .ok (.iload_n 2, 1) := by decide +kernel
theorem dX10_drawn_160 : decode cX10_drawn 160 = .ok (.invokevirtual 165, 3) := by decide +kernel
theorem dX10_drawn_163 : decode cX10_drawn 163 = .ok (.lload 5, 2) := by decide +kernel
theorem dX10_drawn_165 : decode cX10_drawn 165 = .ok (.lcmp, 1) := by decide +kernel
theorem dX10_drawn_166 : decode cX10_drawn 166 = .ok (.ifCond .lt 7, 3) := by decide +kernel
theorem dX10_drawn_169 : decode cX10_drawn 169 = .ok (.iconst 1, 1) := by decide +kernel
theorem dX10_drawn_170 : decode cX10_drawn 170 = .ok (.goto 4, 3) := by decide +kernel
theorem dX10_drawn_173 : decode cX10_drawn 173 = .ok (.iconst 0, 1) := by decide +kernel
theorem dX10_drawn_174 : decode cX10_drawn 174 = .ok (.iadd, 1) := by decide +kernel
theorem dX10_drawn_175 : decode cX10_drawn 175 = .ok (.istore 10, 2) := by decide +kernel
theorem dX10_drawn_177 : decode cX10_drawn 177 = .ok (.iinc 11 1, 3) := by decide +kernel
theorem dX10_drawn_180 : decode cX10_drawn 180 = .ok (.goto (-81), 3) := by decide +kernel
theorem dX10_drawn_183 : decode cX10_drawn 183 = .ok (.iload 10, 2) := by decide +kernel
theorem dX10_drawn_185 : decode cX10_drawn 185 = .ok (.ireturn, 1) := by decide +kernel
theorem dX10_findTogether_0 : decode cX10_findTogether 0 = .ok (.lconst 0, 1) := by decide +kernel
theorem dX10_findTogether_1 : decode cX10_findTogether 1 = .ok (.lstore_n 2, 1) := by decide +kernel
theorem dX10_findTogether_2 : decode cX10_findTogether 2 = .ok (.lconst 0, 1) := by decide +kernel
theorem dX10_findTogether_3 : decode cX10_findTogether 3 = .ok (.lstore 4, 2) := by decide +kernel
theorem dX10_findTogether_5 : decode cX10_findTogether 5 = .ok (.lconst 0, 1) := by decide +kernel
theorem dX10_findTogether_6 : decode cX10_findTogether 6 = .ok (.lstore 6, 2) := by decide +kernel
theorem dX10_findTogether_8 : decode cX10_findTogether 8 = .ok (.lconst 0, 1) := by decide +kernel
theorem dX10_findTogether_9 : decode cX10_findTogether 9 = .ok (.lstore 8, 2) := by decide +kernel
theorem dX10_findTogether_11 : decode cX10_findTogether 11 = .ok (.lconst 0, 1) := by decide +kernel
theorem dX10_findTogether_12 : decode cX10_findTogether 12 = .ok (.lstore 10, 2) := by decide +kernel
theorem dX10_findTogether_14 : decode cX10_findTogether 14 = .ok (.lconst 0, 1) := by decide +kernel
theorem dX10_findTogether_15 : decode cX10_findTogether 15 = .ok (.lstore 12, 2) := by decide +kernel
theorem dX10_findTogether_17 : decode cX10_findTogether 17 = .ok (.iconst 0, 1) := by decide +kernel
theorem dX10_findTogether_18 : decode cX10_findTogether 18 = .ok (.istore 14, 2) := by decide +kernel
theorem dX10_findTogether_20 : decode cX10_findTogether 20 = .ok (.iload 14, 2) := by decide +kernel
theorem dX10_findTogether_22 : decode cX10_findTogether 22 = .ok (.bipush 24, 2) := by decide +kernel
theorem dX10_findTogether_24 : decode cX10_findTogether 24 = .ok (.if_icmp .ge 105, 3) := by decide +kernel
theorem dX10_findTogether_27 : decode cX10_findTogether 27 = .ok (.aload_n 0, 1) := by decide +kernel
theorem dX10_findTogether_28 : decode cX10_findTogether 28 = .ok (.getfield 38, 3) := by decide +kernel
theorem dX10_findTogether_31 : decode cX10_findTogether 31 = .ok (.iload 14, 2) := by decide +kernel
theorem dX10_findTogether_33 : decode cX10_findTogether 33 = .ok (.iaload, 1) := by decide +kernel
theorem dX10_findTogether_34 : decode cX10_findTogether 34 = .ok (.istore 15, 2) := by decide +kernel
theorem dX10_findTogether_36 : decode cX10_findTogether 36 = .ok (.aload_n 0, 1) := by decide +kernel
theorem dX10_findTogether_37 : decode cX10_findTogether 37 = .ok (.getfield 16, 3) := by decide +kernel
theorem dX10_findTogether_40 : decode cX10_findTogether 40 = .ok (.iload 14, 2) := by decide +kernel
theorem dX10_findTogether_42 : decode cX10_findTogether 42 = .ok (.iload_n 1, 1) := by decide +kernel
theorem dX10_findTogether_43 : decode cX10_findTogether 43 = .ok (.isub, 1) := by decide +kernel
theorem dX10_findTogether_44 : decode cX10_findTogether 44 = .ok (.bipush 24, 2) := by decide +kernel
theorem dX10_findTogether_46 : decode cX10_findTogether 46 = .ok (.iadd, 1) := by decide +kernel
theorem dX10_findTogether_47 : decode cX10_findTogether 47 = .ok (.bipush 24, 2) := by decide +kernel
theorem dX10_findTogether_49 : decode cX10_findTogether 49 = .ok (.irem, 1) := by decide +kernel
theorem dX10_findTogether_50 : decode cX10_findTogether 50 = .ok (.iaload, 1) := by decide +kernel
theorem dX10_findTogether_51 : decode cX10_findTogether 51 = .ok (.istore 16, 2) := by decide +kernel
theorem dX10_findTogether_53 : decode cX10_findTogether 53 = .ok (.iload 15, 2) := by decide +kernel
theorem dX10_findTogether_55 : decode cX10_findTogether 55 = .ok (.ldc 53, 2) := by decide +kernel
theorem dX10_findTogether_57 : decode cX10_findTogether 57 = .ok (.if_icmp .eq 66, 3) := by decide +kernel
theorem dX10_findTogether_60 : decode cX10_findTogether 60 = .ok (.iload 16, 2) := by decide +kernel
theorem dX10_findTogether_62 : decode cX10_findTogether 62 = .ok (.ldc 53, 2) := by decide +kernel
theorem dX10_findTogether_64 : decode cX10_findTogether 64 = .ok (.if_icmp .eq 59, 3) := by decide +kernel
theorem dX10_findTogether_67 : decode cX10_findTogether 67 = .ok (.lload_n 2, 1) := by decide +kernel
theorem dX10_findTogether_68 : decode cX10_findTogether 68 = .ok (.lconst 1, 1) := by decide +kernel
theorem dX10_findTogether_69 : decode cX10_findTogether 69 = .ok (.ladd, 1) := by decide +kernel
theorem dX10_findTogether_70 : decode cX10_findTogether 70 = .ok (.lstore_n 2, 1) := by decide +kernel
theorem dX10_findTogether_71 : decode cX10_findTogether 71 = .ok (.lload 4, 2) := by decide +kernel
theorem dX10_findTogether_73 : decode cX10_findTogether 73 = .ok (.iload 15, 2) := by decide +kernel
theorem dX10_findTogether_75 : decode cX10_findTogether 75 = .ok (.i2l, 1) := by decide +kernel
theorem dX10_findTogether_76 : decode cX10_findTogether 76 = .ok (.ladd, 1) := by decide +kernel
theorem dX10_findTogether_77 : decode cX10_findTogether 77 = .ok (.lstore 4, 2) := by decide +kernel
theorem dX10_findTogether_79 : decode cX10_findTogether 79 = .ok (.lload 6, 2) := by decide +kernel
theorem dX10_findTogether_81 : decode cX10_findTogether 81 = .ok (.iload 16, 2) := by decide +kernel
theorem dX10_findTogether_83 : decode cX10_findTogether 83 = .ok (.i2l, 1) := by decide +kernel
theorem dX10_findTogether_84 : decode cX10_findTogether 84 = .ok (.ladd, 1) := by decide +kernel
theorem dX10_findTogether_85 : decode cX10_findTogether 85 = .ok (.lstore 6, 2) := by decide +kernel
theorem dX10_findTogether_87 : decode cX10_findTogether 87 = .ok (.lload 8, 2) := by decide +kernel
theorem dX10_findTogether_89 : decode cX10_findTogether 89 = .ok (.iload 15, 2) := by decide +kernel
theorem dX10_findTogether_91 : decode cX10_findTogether 91 = .ok (.i2l, 1) := by decide +kernel
theorem dX10_findTogether_92 : decode cX10_findTogether 92 = .ok (.iload 15, 2) := by decide +kernel
theorem dX10_findTogether_94 : decode cX10_findTogether 94 = .ok (.i2l, 1) := by decide +kernel
theorem dX10_findTogether_95 : decode cX10_findTogether 95 = .ok (.lmul, 1) := by decide +kernel
theorem dX10_findTogether_96 : decode cX10_findTogether 96 = .ok (.ladd, 1) := by decide +kernel
theorem dX10_findTogether_97 : decode cX10_findTogether 97 = .ok (.lstore 8, 2) := by decide +kernel
theorem dX10_findTogether_99 : decode cX10_findTogether 99 = .ok (.lload 10, 2) := by decide +kernel
theorem dX10_findTogether_101 : decode cX10_findTogether 101 = .ok (.iload 16, 2) := by decide +kernel
theorem dX10_findTogether_103 : decode cX10_findTogether 103 = .ok (.i2l, 1) := by decide +kernel
theorem dX10_findTogether_104 : decode cX10_findTogether 104 = .ok (.iload 16, 2) := by decide +kernel
theorem dX10_findTogether_106 : decode cX10_findTogether 106 = .ok (.i2l, 1) := by decide +kernel
theorem dX10_findTogether_107 : decode cX10_findTogether 107 = .ok (.lmul, 1) := by decide +kernel
theorem dX10_findTogether_108 : decode cX10_findTogether 108 = .ok (.ladd, 1) := by decide +kernel
theorem dX10_findTogether_109 : decode cX10_findTogether 109 = .ok (.lstore 10, 2) := by decide +kernel
theorem dX10_findTogether_111 : decode cX10_findTogether 111 = .ok (.lload 12, 2) := by decide +kernel
theorem dX10_findTogether_113 : decode cX10_findTogether 113 = .ok (.iload 15, 2) := by decide +kernel
theorem dX10_findTogether_115 : decode cX10_findTogether 115 = .ok (.i2l, 1) := by decide +kernel
theorem dX10_findTogether_116 : decode cX10_findTogether 116 = .ok (.iload 16, 2) := by decide +kernel
theorem dX10_findTogether_118 : decode cX10_findTogether 118 = .ok (.i2l, 1) := by decide +kernel
theorem dX10_findTogether_119 : decode cX10_findTogether 119 = .ok (.lmul, 1) := by decide +kernel
theorem dX10_findTogether_120 : decode cX10_findTogether 120 = .ok (.ladd, 1) := by decide +kernel
theorem dX10_findTogether_121 : decode cX10_findTogether 121 = .ok (.lstore 12, 2) := by decide +kernel
theorem dX10_findTogether_123 : decode cX10_findTogether 123 = .ok (.iinc 14 1, 3) := by decide +kernel
theorem dX10_findTogether_126 : decode cX10_findTogether 126 = .ok (.goto (-106), 3) := by decide +kernel
theorem dX10_findTogether_129 : decode cX10_findTogether 129 = .ok (.aload_n 0, 1) := by decide +kernel
theorem dX10_findTogether_130 : decode cX10_findTogether 130 = .ok (.lload_n 2, 1) := by decide +kernel
theorem dX10_findTogether_131 : decode cX10_findTogether 131 = .ok (.lload 12, 2) := by decide +kernel
theorem dX10_findTogether_133 : decode cX10_findTogether 133 = .ok (.lmul, 1) := by decide +kernel
theorem dX10_findTogether_134 : decode cX10_findTogether 134 = .ok (.lload 4, 2) := by decide +kernel
theorem dX10_findTogether_136 : decode cX10_findTogether 136 = .ok (.lload 6, 2) := by decide +kernel
theorem dX10_findTogether_138 : decode cX10_findTogether 138 = .ok (.lmul, 1) := by decide +kernel
theorem dX10_findTogether_139 : decode cX10_findTogether 139 = .ok (.lsub, 1) := by decide +kernel
theorem dX10_findTogether_140 : decode cX10_findTogether 140 = .ok (.lload_n 2, 1) := by decide +kernel
theorem dX10_findTogether_141 : decode cX10_findTogether 141 = .ok (.lload 12, 2) := by decide +kernel
theorem dX10_findTogether_143 : decode cX10_findTogether 143 = .ok (.lmul, 1) := by decide +kernel
theorem dX10_findTogether_144 : decode cX10_findTogether 144 = .ok (.lload 4, 2) := by decide +kernel
theorem dX10_findTogether_146 : decode cX10_findTogether 146 = .ok (.lload 6, 2) := by decide +kernel
theorem dX10_findTogether_148 : decode cX10_findTogether 148 = .ok (.lmul, 1) := by decide +kernel
theorem dX10_findTogether_149 : decode cX10_findTogether 149 = .ok (.lsub, 1) := by decide +kernel
theorem dX10_findTogether_150 : decode cX10_findTogether 150 = .ok (.lmul, 1) := by decide +kernel
theorem dX10_findTogether_151 : decode cX10_findTogether 151 = .ok (.putfield 201, 3) := by decide +kernel
theorem dX10_findTogether_154 : decode cX10_findTogether 154 = .ok (.aload_n 0, 1) := by decide +kernel
theorem dX10_findTogether_155 : decode cX10_findTogether 155 = .ok (.lload_n 2, 1) := by decide +kernel
theorem dX10_findTogether_156 : decode cX10_findTogether 156 = .ok (.lload 8, 2) := by decide +kernel
theorem dX10_findTogether_158 : decode cX10_findTogether 158 = .ok (.lmul, 1) := by decide +kernel
theorem dX10_findTogether_159 : decode cX10_findTogether 159 = .ok (.lload 4, 2) := by decide +kernel
theorem dX10_findTogether_161 : decode cX10_findTogether 161 = .ok (.lload 4, 2) := by decide +kernel
theorem dX10_findTogether_163 : decode cX10_findTogether 163 = .ok (.lmul, 1) := by decide +kernel
theorem dX10_findTogether_164 : decode cX10_findTogether 164 = .ok (.lsub, 1) := by decide +kernel
theorem dX10_findTogether_165 : decode cX10_findTogether 165 = .ok (.lload_n 2, 1) := by decide +kernel
theorem dX10_findTogether_166 : decode cX10_findTogether 166 = .ok (.lload 10, 2) := by decide +kernel
theorem dX10_findTogether_168 : decode cX10_findTogether 168 = .ok (.lmul, 1) := by decide +kernel
theorem dX10_findTogether_169 : decode cX10_findTogether 169 = .ok (.lload 6, 2) := by decide +kernel
theorem dX10_findTogether_171 : decode cX10_findTogether 171 = .ok (.lload 6, 2) := by decide +kernel
theorem dX10_findTogether_173 : decode cX10_findTogether 173 = .ok (.lmul, 1) := by decide +kernel
theorem dX10_findTogether_174 : decode cX10_findTogether 174 = .ok (.lsub, 1) := by decide +kernel
theorem dX10_findTogether_175 : decode cX10_findTogether 175 = .ok (.lmul, 1) := by decide +kernel
theorem dX10_findTogether_176 : decode cX10_findTogether 176 = .ok (.putfield 205, 3) := by decide +kernel
theorem dX10_findTogether_179 : decode cX10_findTogether 179 = .ok (.aload_n 0, 1) := by decide +kernel
theorem dX10_findTogether_180 : decode cX10_findTogether 180 = .ok (.getfield 205, 3) := by decide +kernel
theorem dX10_findTogether_183 : decode cX10_findTogether 183 = .ok (.lconst 0, 1) := by decide +kernel
theorem dX10_findTogether_184 : decode cX10_findTogether 184 = .ok (.lcmp, 1) := by decide +kernel
theorem dX10_findTogether_185 : decode cX10_findTogether 185 = .ok (.ifCond .ne 13, 3) := by decide +kernel
theorem dX10_findTogether_188 : decode cX10_findTogether 188 = .ok (.aload_n 0, 1) := by decide +kernel
theorem dX10_findTogether_189 : decode cX10_findTogether 189 = .ok (.lconst 0, 1) := by decide +kernel
theorem dX10_findTogether_190 : decode cX10_findTogether 190 = .ok (.putfield 201, 3) := by decide +kernel
theorem dX10_findTogether_193 : decode cX10_findTogether 193 = .ok (.aload_n 0, 1) := by decide +kernel
theorem dX10_findTogether_194 : decode cX10_findTogether 194 = .ok (.lconst 1, 1) := by decide +kernel
theorem dX10_findTogether_195 : decode cX10_findTogether 195 = .ok (.putfield 205, 3) := by decide +kernel
theorem dX10_findTogether_198 : decode cX10_findTogether 198 = .ok (.return_, 1) := by decide +kernel
theorem dX10_dealBoth_0 : decode cX10_dealBoth 0 = .ok (.aload_n 0, 1) := by decide +kernel
theorem dX10_dealBoth_1 : decode cX10_dealBoth 1 = .ok (.iload_n 1, 1) := by decide +kernel
theorem dX10_dealBoth_2 : decode cX10_dealBoth 2 = .ok (.invokevirtual 127, 3) := by decide +kernel
theorem dX10_dealBoth_5 : decode cX10_dealBoth 5 = .ok (.iconst 0, 1) := by decide +kernel
theorem dX10_dealBoth_6 : decode cX10_dealBoth 6 = .ok (.istore_n 3, 1) := by decide +kernel
theorem dX10_dealBoth_7 : decode cX10_dealBoth 7 = .ok (.iload_n 3, 1) := by decide +kernel
theorem dX10_dealBoth_8 : decode cX10_dealBoth 8 = .ok (.bipush 24, 2) := by decide +kernel
theorem dX10_dealBoth_10 : decode cX10_dealBoth 10 = .ok (.if_icmp .ge 21, 3) := by decide +kernel
theorem dX10_dealBoth_13 : decode cX10_dealBoth 13 = .ok (.aload_n 0, 1) := by decide +kernel
theorem dX10_dealBoth_14 : decode cX10_dealBoth 14 = .ok (.getfield 38, 3) := by decide +kernel
theorem dX10_dealBoth_17 : decode cX10_dealBoth 17 = .ok (.iload_n 3, 1) := by decide +kernel
theorem dX10_dealBoth_18 : decode cX10_dealBoth 18 = .ok (.aload_n 0, 1) := by decide +kernel
theorem dX10_dealBoth_19 : decode cX10_dealBoth 19 = .ok (.getfield 16, 3) := by decide +kernel
theorem dX10_dealBoth_22 : decode cX10_dealBoth 22 = .ok (.iload_n 3, 1) := by decide +kernel
theorem dX10_dealBoth_23 : decode cX10_dealBoth 23 = .ok (.iaload, 1) := by decide +kernel
theorem dX10_dealBoth_24 : decode cX10_dealBoth 24 = .ok (.iastore, 1) := by decide +kernel
theorem dX10_dealBoth_25 : decode cX10_dealBoth 25 = .ok (.iinc 3 1, 3) := by decide +kernel
theorem dX10_dealBoth_28 : decode cX10_dealBoth 28 = .ok (.goto (-21), 3) := by decide +kernel
theorem dX10_dealBoth_31 : decode cX10_dealBoth 31 = .ok (.aload_n 0, 1) := by decide +kernel
theorem dX10_dealBoth_32 : decode cX10_dealBoth 32 = .ok (.iload_n 2, 1) := by decide +kernel
theorem dX10_dealBoth_33 : decode cX10_dealBoth 33 = .ok (.invokevirtual 127, 3) := by decide +kernel
theorem dX10_dealBoth_36 : decode cX10_dealBoth 36 = .ok (.return_, 1) := by decide +kernel
theorem dX10_together_0 : decode cX10_together 0 = .ok (.iload_n 1, 1) := by decide +kernel
theorem dX10_together_1 : decode cX10_together 1 = .ok (.invokestatic 66, 3) := by decide +kernel
theorem dX10_together_4 : decode cX10_together 4 = .ok (.ifCond .eq 10, 3) := by decide +kernel
theorem dX10_together_7 : decode cX10_together 7 = .ok (.iload_n 2, 1) := by decide +kernel
theorem dX10_together_8 : decode cX10_together 8 = .ok (.invokestatic 66, 3) := by decide +kernel
theorem dX10_together_11 : decode cX10_together 11 = .ok (.ifCond .ne 7, 3) := by decide +kernel
theorem dX10_together_14 : decode cX10_together 14 = .ok (.ldc2_w 147, 3) := by decide +kernel
theorem dX10_together_17 : decode cX10_together 17 = .ok (.lreturn, 1) := by decide +kernel
theorem dX10_together_18 : decode cX10_together 18 = .ok (.iload_n 3, 1) := by decide +kernel
theorem dX10_together_19 : decode cX10_together 19 = .ok (.invokestatic 71, 3) := by decide +kernel
theorem dX10_together_22 : decode cX10_together 22 = .ok (.ifCond .eq 11, 3) := by decide +kernel
theorem dX10_together_25 : decode cX10_together 25 = .ok (.iload 4, 2) := by decide +kernel
theorem dX10_together_27 : decode cX10_together 27 = .ok (.invokestatic 152, 3) := by decide +kernel
theorem dX10_together_30 : decode cX10_together 30 = .ok (.ifCond .ne 7, 3) := by decide +kernel
theorem dX10_together_33 : decode cX10_together 33 = .ok (.ldc2_w 155, 3) := by decide +kernel
theorem dX10_together_36 : decode cX10_together 36 = .ok (.lreturn, 1) := by decide +kernel
theorem dX10_together_37 : decode cX10_together 37 = .ok (.aload_n 0, 1) := by decide +kernel
theorem dX10_together_38 : decode cX10_together 38 = .ok (.invokevirtual 122, 3) := by decide +kernel
theorem dX10_together_41 : decode cX10_together 41 = .ok (.ifCond .lt 7, 3) := by decide +kernel
theorem dX10_together_44 : decode cX10_together 44 = .ok (.ldc2_w 157, 3) := by decide +kernel
theorem dX10_together_47 : decode cX10_together 47 = .ok (.lreturn, 1) := by decide +kernel
theorem dX10_together_48 : decode cX10_together 48 = .ok (.aload_n 0, 1) := by decide +kernel
theorem dX10_together_49 : decode cX10_together 49 = .ok (.iload_n 1, 1) := by decide +kernel
theorem dX10_together_50 : decode cX10_together 50 = .ok (.iload_n 2, 1) := by decide +kernel
theorem dX10_together_51 : decode cX10_together 51 = .ok (.invokevirtual 208, 3) := by decide +kernel
theorem dX10_together_54 : decode cX10_together 54 = .ok (.aload_n 0, 1) := by decide +kernel
theorem dX10_together_55 : decode cX10_together 55 = .ok (.iload_n 3, 1) := by decide +kernel
theorem dX10_together_56 : decode cX10_together 56 = .ok (.invokevirtual 211, 3) := by decide +kernel
theorem dX10_together_59 : decode cX10_together 59 = .ok (.aload_n 0, 1) := by decide +kernel
theorem dX10_together_60 : decode cX10_together 60 = .ok (.getfield 201, 3) := by decide +kernel
theorem dX10_together_63 : decode cX10_together 63 = .ok (.aload_n 0, 1) := by decide +kernel
theorem dX10_together_64 : decode cX10_together 64 = .ok (.getfield 205, 3) := by decide +kernel
theorem dX10_together_67 : decode cX10_together 67 = .ok (.iload 4, 2) := by decide +kernel
theorem dX10_together_69 : decode cX10_together 69 = .ok (.invokestatic 169, 3) := by decide +kernel
theorem dX10_together_72 : decode cX10_together 72 = .ok (.lreturn, 1) := by decide +kernel
theorem dX10_isLess_0 : decode cX10_isLess 0 = .ok (.lload_n 0, 1) := by decide +kernel
theorem dX10_isLess_1 : decode cX10_isLess 1 = .ok (.lstore 8, 2) := by decide +kernel
theorem dX10_isLess_3 : decode cX10_isLess 3 = .ok (.lload_n 2, 1) := by decide +kernel
theorem dX10_isLess_4 : decode cX10_isLess 4 = .ok (.lstore 10, 2) := by decide +kernel
theorem dX10_isLess_6 : decode cX10_isLess 6 = .ok (.lload 4, 2) := by decide +kernel
theorem dX10_isLess_8 : decode cX10_isLess 8 = .ok (.lstore 12, 2) := by decide +kernel
theorem dX10_isLess_10 : decode cX10_isLess 10 = .ok (.lload 6, 2) := by decide +kernel
theorem dX10_isLess_12 : decode cX10_isLess 12 = .ok (.lstore 14, 2) := by decide +kernel
theorem dX10_isLess_14 : decode cX10_isLess 14 = .ok (.iconst 0, 1) := by decide +kernel
theorem dX10_isLess_15 : decode cX10_isLess 15 = .ok (.istore 16, 2) := by decide +kernel
theorem dX10_isLess_17 : decode cX10_isLess 17 = .ok (.lload 8, 2) := by decide +kernel
theorem dX10_isLess_19 : decode cX10_isLess 19 = .ok (.lload 10, 2) := by decide +kernel
theorem dX10_isLess_21 : decode cX10_isLess 21 = .ok (.ldiv, 1) := by decide +kernel
theorem dX10_isLess_22 : decode cX10_isLess 22 = .ok (.lload 12, 2) := by decide +kernel
theorem dX10_isLess_24 : decode cX10_isLess 24 = .ok (.lload 14, 2) := by decide +kernel
theorem dX10_isLess_26 : decode cX10_isLess 26 = .ok (.ldiv, 1) := by decide +kernel
theorem dX10_isLess_27 : decode cX10_isLess 27 = .ok (.lcmp, 1) := by decide +kernel
theorem dX10_isLess_28 : decode cX10_isLess 28 = .ok (.ifCond .ne 68, 3) := by decide +kernel
theorem dX10_isLess_31 : decode cX10_isLess 31 = .ok (.lload 8, 2) := by decide +kernel
theorem dX10_isLess_33 : decode cX10_isLess 33 = .ok (.lload 10, 2) := by decide +kernel
theorem dX10_isLess_35 : decode cX10_isLess 35 = .ok (.lrem, 1) := by decide +kernel
theorem dX10_isLess_36 : decode cX10_isLess 36 = .ok (.lconst 0, 1) := by decide +kernel
theorem dX10_isLess_37 : decode cX10_isLess 37 = .ok (.lcmp, 1) := by decide +kernel
theorem dX10_isLess_38 : decode cX10_isLess 38 = .ok (.ifCond .eq 58, 3) := by decide +kernel
theorem dX10_isLess_41 : decode cX10_isLess 41 = .ok (.lload 12, 2) := by decide +kernel
theorem dX10_isLess_43 : decode cX10_isLess 43 = .ok (.lload 14, 2) := by decide +kernel
theorem dX10_isLess_45 : decode cX10_isLess 45 = .ok (.lrem, 1) := by decide +kernel
theorem dX10_isLess_46 : decode cX10_isLess 46 = .ok (.lconst 0, 1) := by decide +kernel
theorem dX10_isLess_47 : decode cX10_isLess 47 = .ok (.lcmp, 1) := by decide +kernel
theorem dX10_isLess_48 : decode cX10_isLess 48 = .ok (.ifCond .eq 48, 3) := by decide +kernel
theorem dX10_isLess_51 : decode cX10_isLess 51 = .ok (.lload 8, 2) := by decide +kernel
theorem dX10_isLess_53 : decode cX10_isLess 53 = .ok (.lload 10, 2) := by decide +kernel
theorem dX10_isLess_55 : decode cX10_isLess 55 = .ok (.lrem, 1) := by decide +kernel
theorem dX10_isLess_56 : decode cX10_isLess 56 = .ok (.lstore 17, 2) := by decide +kernel
theorem dX10_isLess_58 : decode cX10_isLess 58 = .ok (.lload 12, 2) := by decide +kernel
theorem dX10_isLess_60 : decode cX10_isLess 60 = .ok (.lload 14, 2) := by decide +kernel
theorem dX10_isLess_62 : decode cX10_isLess 62 = .ok (.lrem, 1) := by decide +kernel
theorem dX10_isLess_63 : decode cX10_isLess 63 = .ok (.lstore 19, 2) := by decide +kernel
theorem dX10_isLess_65 : decode cX10_isLess 65 = .ok (.lload 10, 2) := by decide +kernel
theorem dX10_isLess_67 : decode cX10_isLess 67 = .ok (.lstore 8, 2) := by decide +kernel
theorem dX10_isLess_69 : decode cX10_isLess 69 = .ok (.lload 17, 2) := by decide +kernel
theorem dX10_isLess_71 : decode cX10_isLess 71 = .ok (.lstore 10, 2) := by decide +kernel
theorem dX10_isLess_73 : decode cX10_isLess 73 = .ok (.lload 14, 2) := by decide +kernel
theorem dX10_isLess_75 : decode cX10_isLess 75 = .ok (.lstore 12, 2) := by decide +kernel
theorem dX10_isLess_77 : decode cX10_isLess 77 = .ok (.lload 19, 2) := by decide +kernel
theorem dX10_isLess_79 : decode cX10_isLess 79 = .ok (.lstore 14, 2) := by decide +kernel
theorem dX10_isLess_81 : decode cX10_isLess 81 = .ok (.iload 16, 2) := by decide +kernel
theorem dX10_isLess_83 : decode cX10_isLess 83 = .ok (.ifCond .ne 7, 3) := by decide +kernel
theorem dX10_isLess_86 : decode cX10_isLess 86 = .ok (.iconst 1, 1) := by decide +kernel
theorem dX10_isLess_87 : decode cX10_isLess 87 = .ok (.goto 4, 3) := by decide +kernel
theorem dX10_isLess_90 : decode cX10_isLess 90 = .ok (.iconst 0, 1) := by decide +kernel
theorem dX10_isLess_91 : decode cX10_isLess 91 = .ok (.istore 16, 2) := by decide +kernel
theorem dX10_isLess_93 : decode cX10_isLess 93 = .ok (.goto (-76), 3) := by decide +kernel
theorem dX10_isLess_96 : decode cX10_isLess 96 = .ok (.lload 8, 2) := by decide +kernel
theorem dX10_isLess_98 : decode cX10_isLess 98 = .ok (.lload 10, 2) := by decide +kernel
theorem dX10_isLess_100 : decode cX10_isLess 100 = .ok (.ldiv, 1) := by decide +kernel
theorem dX10_isLess_101 : decode cX10_isLess 101 = .ok (.lload 12, 2) := by decide +kernel
theorem dX10_isLess_103 : decode cX10_isLess 103 = .ok (.lload 14, 2) := by decide +kernel
theorem dX10_isLess_105 : decode cX10_isLess 105 = .ok (.ldiv, 1) := by decide +kernel
theorem dX10_isLess_106 : decode cX10_isLess 106 = .ok (.lcmp, 1) := by decide +kernel
theorem dX10_isLess_107 : decode cX10_isLess 107 = .ok (.ifCond .eq 25, 3) := by decide +kernel
theorem dX10_isLess_110 : decode cX10_isLess 110 = .ok (.lload 8, 2) := by decide +kernel
theorem dX10_isLess_112 : decode cX10_isLess 112 = .ok (.lload 10, 2) := by decide +kernel
theorem dX10_isLess_114 : decode cX10_isLess 114 = .ok (.ldiv, 1) := by decide +kernel
theorem dX10_isLess_115 : decode cX10_isLess 115 = .ok (.lload 12, 2) := by decide +kernel
theorem dX10_isLess_117 : decode cX10_isLess 117 = .ok (.lload 14, 2) := by decide +kernel
theorem dX10_isLess_119 : decode cX10_isLess 119 = .ok (.ldiv, 1) := by decide +kernel
theorem dX10_isLess_120 : decode cX10_isLess 120 = .ok (.lcmp, 1) := by decide +kernel
theorem dX10_isLess_121 : decode cX10_isLess 121 = .ok (.ifCond .ge 7, 3) := by decide +kernel
theorem dX10_isLess_124 : decode cX10_isLess 124 = .ok (.iconst 1, 1) := by decide +kernel
theorem dX10_isLess_125 : decode cX10_isLess 125 = .ok (.goto 32, 3) := by decide +kernel
theorem dX10_isLess_128 : decode cX10_isLess 128 = .ok (.iconst 0, 1) := by decide +kernel
theorem dX10_isLess_129 : decode cX10_isLess 129 = .ok (.goto 28, 3) := by decide +kernel
theorem dX10_isLess_132 : decode cX10_isLess 132 = .ok (.lload 8, 2) := by decide +kernel
theorem dX10_isLess_134 : decode cX10_isLess 134 = .ok (.lload 10, 2) := by decide +kernel
theorem dX10_isLess_136 : decode cX10_isLess 136 = .ok (.lrem, 1) := by decide +kernel
theorem dX10_isLess_137 : decode cX10_isLess 137 = .ok (.lconst 0, 1) := by decide +kernel
theorem dX10_isLess_138 : decode cX10_isLess 138 = .ok (.lcmp, 1) := by decide +kernel
theorem dX10_isLess_139 : decode cX10_isLess 139 = .ok (.ifCond .ne 17, 3) := by decide +kernel
theorem dX10_isLess_142 : decode cX10_isLess 142 = .ok (.lload 12, 2) := by decide +kernel
theorem dX10_isLess_144 : decode cX10_isLess 144 = .ok (.lload 14, 2) := by decide +kernel
theorem dX10_isLess_146 : decode cX10_isLess 146 = .ok (.lrem, 1) := by decide +kernel
theorem dX10_isLess_147 : decode cX10_isLess 147 = .ok (.lconst 0, 1) := by decide +kernel
theorem dX10_isLess_148 : decode cX10_isLess 148 = .ok (.lcmp, 1) := by decide +kernel
theorem dX10_isLess_149 : decode cX10_isLess 149 = .ok (.ifCond .eq 7, 3) := by decide +kernel
theorem dX10_isLess_152 : decode cX10_isLess 152 = .ok (.iconst 1, 1) := by decide +kernel
theorem dX10_isLess_153 : decode cX10_isLess 153 = .ok (.goto 4, 3) := by decide +kernel
theorem dX10_isLess_156 : decode cX10_isLess 156 = .ok (.iconst 0, 1) := by decide +kernel
theorem dX10_isLess_157 : decode cX10_isLess 157 = .ok (.istore 17, 2) := by decide +kernel
theorem dX10_isLess_159 : decode cX10_isLess 159 = .ok (.lload 8, 2) := by decide +kernel
theorem dX10_isLess_161 : decode cX10_isLess 161 = .ok (.lload 10, 2) := by decide +kernel
theorem dX10_isLess_163 : decode cX10_isLess 163 = .ok (.ldiv, 1) := by decide +kernel
theorem dX10_isLess_164 : decode cX10_isLess 164 = .ok (.lload 12, 2) := by decide +kernel
theorem dX10_isLess_166 : decode cX10_isLess 166 = .ok (.lload 14, 2) := by decide +kernel
theorem dX10_isLess_168 : decode cX10_isLess 168 = .ok (.ldiv, 1) := by decide +kernel
theorem dX10_isLess_169 : decode cX10_isLess 169 = .ok (.lcmp, 1) := by decide +kernel
theorem dX10_isLess_170 : decode cX10_isLess 170 = .ok (.ifCond .eq 25, 3) := by decide +kernel
theorem dX10_isLess_173 : decode cX10_isLess 173 = .ok (.lload 8, 2) := by decide +kernel
theorem dX10_isLess_175 : decode cX10_isLess 175 = .ok (.lload 10, 2) := by decide +kernel
theorem dX10_isLess_177 : decode cX10_isLess 177 = .ok (.ldiv, 1) := by decide +kernel
theorem dX10_isLess_178 : decode cX10_isLess 178 = .ok (.lload 12, 2) := by decide +kernel
theorem dX10_isLess_180 : decode cX10_isLess 180 = .ok (.lload 14, 2) := by decide +kernel
theorem dX10_isLess_182 : decode cX10_isLess 182 = .ok (.ldiv, 1) := by decide +kernel
theorem dX10_isLess_183 : decode cX10_isLess 183 = .ok (.lcmp, 1) := by decide +kernel
theorem dX10_isLess_184 : decode cX10_isLess 184 = .ok (.ifCond .le 7, 3) := by decide +kernel
theorem dX10_isLess_187 : decode cX10_isLess 187 = .ok (.iconst 1, 1) := by decide +kernel
theorem dX10_isLess_188 : decode cX10_isLess 188 = .ok (.goto 32, 3) := by decide +kernel
theorem dX10_isLess_191 : decode cX10_isLess 191 = .ok (.iconst 0, 1) := by decide +kernel
theorem dX10_isLess_192 : decode cX10_isLess 192 = .ok (.goto 28, 3) := by decide +kernel
theorem dX10_isLess_195 : decode cX10_isLess 195 = .ok (.lload 8, 2) := by decide +kernel
theorem dX10_isLess_197 : decode cX10_isLess 197 = .ok (.lload 10, 2) := by decide +kernel
theorem dX10_isLess_199 : decode cX10_isLess 199 = .ok (.lrem, 1) := by decide +kernel
theorem dX10_isLess_200 : decode cX10_isLess 200 = .ok (.lconst 0, 1) := by decide +kernel
theorem dX10_isLess_201 : decode cX10_isLess 201 = .ok (.lcmp, 1) := by decide +kernel
theorem dX10_isLess_202 : decode cX10_isLess 202 = .ok (.ifCond .eq 17, 3) := by decide +kernel
theorem dX10_isLess_205 : decode cX10_isLess 205 = .ok (.lload 12, 2) := by decide +kernel
theorem dX10_isLess_207 : decode cX10_isLess 207 = .ok (.lload 14, 2) := by decide +kernel
theorem dX10_isLess_209 : decode cX10_isLess 209 = .ok (.lrem, 1) := by decide +kernel
theorem dX10_isLess_210 : decode cX10_isLess 210 = .ok (.lconst 0, 1) := by decide +kernel
theorem dX10_isLess_211 : decode cX10_isLess 211 = .ok (.lcmp, 1) := by decide +kernel
theorem dX10_isLess_212 : decode cX10_isLess 212 = .ok (.ifCond .ne 7, 3) := by decide +kernel
theorem dX10_isLess_215 : decode cX10_isLess 215 = .ok (.iconst 1, 1) := by decide +kernel
theorem dX10_isLess_216 : decode cX10_isLess 216 = .ok (.goto 4, 3) := by decide +kernel
theorem dX10_isLess_219 : decode cX10_isLess 219 = .ok (.iconst 0, 1) := by decide +kernel
theorem dX10_isLess_220 : decode cX10_isLess 220 = .ok (.istore 18, 2) := by decide +kernel
theorem dX10_isLess_222 : decode cX10_isLess 222 = .ok (.iload 16, 2) := by decide +kernel
theorem dX10_isLess_224 : decode cX10_isLess 224 = .ok (.ifCond .eq 8, 3) := by decide +kernel
theorem dX10_isLess_227 : decode cX10_isLess 227 = .ok (.iload 18, 2) := by decide +kernel
theorem dX10_isLess_229 : decode cX10_isLess 229 = .ok (.goto 5, 3) := by decide +kernel
theorem dX10_isLess_232 : decode cX10_isLess 232 = .ok (.iload 17, 2) := by decide +kernel
theorem dX10_isLess_234 : decode cX10_isLess 234 = .ok (.ireturn, 1) := by decide +kernel
theorem dX10_go_0 : decode cX10_go 0 = .ok (.iload_n 1, 1) := by decide +kernel
theorem dX10_go_1 : decode cX10_go 1 = .ok (.invokestatic 66, 3) := by decide +kernel
theorem dX10_go_4 : decode cX10_go 4 = .ok (.ifCond .eq 10, 3) := by decide +kernel
theorem dX10_go_7 : decode cX10_go 7 = .ok (.iload_n 2, 1) := by decide +kernel
theorem dX10_go_8 : decode cX10_go 8 = .ok (.invokestatic 66, 3) := by decide +kernel
theorem dX10_go_11 : decode cX10_go 11 = .ok (.ifCond .ne 5, 3) := by decide +kernel
theorem dX10_go_14 : decode cX10_go 14 = .ok (.iconst (-1), 1) := by decide +kernel
theorem dX10_go_15 : decode cX10_go 15 = .ok (.ireturn, 1) := by decide +kernel
theorem dX10_go_16 : decode cX10_go 16 = .ok (.aload_n 0, 1) := by decide +kernel
theorem dX10_go_17 : decode cX10_go 17 = .ok (.invokevirtual 122, 3) := by decide +kernel
theorem dX10_go_20 : decode cX10_go 20 = .ok (.ifCond .lt 6, 3) := by decide +kernel
theorem dX10_go_23 : decode cX10_go 23 = .ok (.bipush (-5), 2) := by decide +kernel
theorem dX10_go_25 : decode cX10_go 25 = .ok (.ireturn, 1) := by decide +kernel
theorem dX10_go_26 : decode cX10_go 26 = .ok (.aload_n 0, 1) := by decide +kernel
theorem dX10_go_27 : decode cX10_go 27 = .ok (.iload_n 1, 1) := by decide +kernel
theorem dX10_go_28 : decode cX10_go 28 = .ok (.iload_n 2, 1) := by decide +kernel
theorem dX10_go_29 : decode cX10_go 29 = .ok (.invokevirtual 208, 3) := by decide +kernel
theorem dX10_go_32 : decode cX10_go 32 = .ok (.aload_n 0, 1) := by decide +kernel
theorem dX10_go_33 : decode cX10_go 33 = .ok (.iconst 0, 1) := by decide +kernel
theorem dX10_go_34 : decode cX10_go 34 = .ok (.invokevirtual 211, 3) := by decide +kernel
theorem dX10_go_37 : decode cX10_go 37 = .ok (.aload_n 0, 1) := by decide +kernel
theorem dX10_go_38 : decode cX10_go 38 = .ok (.getfield 201, 3) := by decide +kernel
theorem dX10_go_41 : decode cX10_go 41 = .ok (.lstore_n 3, 1) := by decide +kernel
theorem dX10_go_42 : decode cX10_go 42 = .ok (.aload_n 0, 1) := by decide +kernel
theorem dX10_go_43 : decode cX10_go 43 = .ok (.getfield 205, 3) := by decide +kernel
theorem dX10_go_46 : decode cX10_go 46 = .ok (.lstore 5, 2) := by decide +kernel
theorem dX10_go_48 : decode cX10_go 48 = .ok (.iconst 0, 1) := by decide +kernel
theorem dX10_go_49 : decode cX10_go 49 = .ok (.istore 7, 2) := by decide +kernel
theorem dX10_go_51 : decode cX10_go 51 = .ok (.iconst 0, 1) := by decide +kernel
theorem dX10_go_52 : decode cX10_go 52 = .ok (.istore 8, 2) := by decide +kernel
theorem dX10_go_54 : decode cX10_go 54 = .ok (.iload 8, 2) := by decide +kernel
theorem dX10_go_56 : decode cX10_go 56 = .ok (.bipush 24, 2) := by decide +kernel
theorem dX10_go_58 : decode cX10_go 58 = .ok (.if_icmp .ge 42, 3) := by decide +kernel
theorem dX10_go_61 : decode cX10_go 61 = .ok (.aload_n 0, 1) := by decide +kernel
theorem dX10_go_62 : decode cX10_go 62 = .ok (.iload 8, 2) := by decide +kernel
theorem dX10_go_64 : decode cX10_go 64 = .ok (.invokevirtual 211, 3) := by decide +kernel
theorem dX10_go_67 : decode cX10_go 67 = .ok (.iload 7, 2) := by decide +kernel
theorem dX10_go_69 : decode cX10_go 69 = .ok (.aload_n 0, 1) := by decide +kernel
theorem dX10_go_70 : decode cX10_go 70 = .ok (.getfield 201, 3) := by decide +kernel
theorem dX10_go_73 : decode cX10_go 73 = .ok (.aload_n 0, 1) := by decide +kernel
theorem dX10_go_74 : decode cX10_go 74 = .ok (.getfield 205, 3) := by decide +kernel
theorem dX10_go_77 : decode cX10_go 77 = .ok (.lload_n 3, 1) := by decide +kernel
theorem dX10_go_78 : decode cX10_go 78 = .ok (.lload 5, 2) := by decide +kernel
theorem dX10_go_80 : decode cX10_go 80 = .ok (.invokestatic 214, 3) := by decide +kernel
theorem dX10_go_83 : decode cX10_go 83 = .ok (.ifCond .eq 7, 3) := by decide +kernel
theorem dX10_go_86 : decode cX10_go 86 = .ok (.iconst 0, 1) := by decide +kernel
theorem dX10_go_87 : decode cX10_go 87 = .ok (.goto 4, 3) := by decide +kernel
theorem dX10_go_90 : decode cX10_go 90 = .ok (.iconst 1, 1) := by decide +kernel
theorem dX10_go_91 : decode cX10_go 91 = .ok (.iadd, 1) := by decide +kernel
theorem dX10_go_92 : decode cX10_go 92 = .ok (.istore 7, 2) := by decide +kernel
theorem dX10_go_94 : decode cX10_go 94 = .ok (.iinc 8 1, 3) := by decide +kernel
theorem dX10_go_97 : decode cX10_go 97 = .ok (.goto (-43), 3) := by decide +kernel
theorem dX10_go_100 : decode cX10_go 100 = .ok (.iload 7, 2) := by decide +kernel
theorem dX10_go_102 : decode cX10_go 102 = .ok (.ireturn, 1) := by decide +kernel
theorem dX10_waves_0 : decode cX10_waves 0 = .ok (.iload_n 1, 1) := by decide +kernel
theorem dX10_waves_1 : decode cX10_waves 1 = .ok (.i2l, 1) := by decide +kernel
theorem dX10_waves_2 : decode cX10_waves 2 = .ok (.ldc2_w 218, 3) := by decide +kernel
theorem dX10_waves_5 : decode cX10_waves 5 = .ok (.ldc2_w 145, 3) := by decide +kernel
theorem dX10_waves_8 : decode cX10_waves 8 = .ok (.invokestatic 58, 3) := by decide +kernel
theorem dX10_waves_11 : decode cX10_waves 11 = .ok (.ifCond .eq 22, 3) := by decide +kernel
theorem dX10_waves_14 : decode cX10_waves 14 = .ok (.iload_n 2, 1) := by decide +kernel
theorem dX10_waves_15 : decode cX10_waves 15 = .ok (.i2l, 1) := by decide +kernel
theorem dX10_waves_16 : decode cX10_waves 16 = .ok (.lconst 1, 1) := by decide +kernel
theorem dX10_waves_17 : decode cX10_waves 17 = .ok (.ldc2_w 62, 3) := by decide +kernel
theorem dX10_waves_20 : decode cX10_waves 20 = .ok (.invokestatic 58, 3) := by decide +kernel
theorem dX10_waves_23 : decode cX10_waves 23 = .ok (.ifCond .eq 10, 3) := by decide +kernel
theorem dX10_waves_26 : decode cX10_waves 26 = .ok (.iload_n 3, 1) := by decide +kernel
theorem dX10_waves_27 : decode cX10_waves 27 = .ok (.invokestatic 152, 3) := by decide +kernel
theorem dX10_waves_30 : decode cX10_waves 30 = .ok (.ifCond .ne 7, 3) := by decide +kernel
theorem dX10_waves_33 : decode cX10_waves 33 = .ok (.ldc2_w 155, 3) := by decide +kernel
theorem dX10_waves_36 : decode cX10_waves 36 = .ok (.lreturn, 1) := by decide +kernel
theorem dX10_waves_37 : decode cX10_waves 37 = .ok (.lconst 0, 1) := by decide +kernel
theorem dX10_waves_38 : decode cX10_waves 38 = .ok (.lstore 4, 2) := by decide +kernel
theorem dX10_waves_40 : decode cX10_waves 40 = .ok (.iconst 0, 1) := by decide +kernel
theorem dX10_waves_41 : decode cX10_waves 41 = .ok (.istore 6, 2) := by decide +kernel
theorem dX10_waves_43 : decode cX10_waves 43 = .ok (.iload 6, 2) := by decide +kernel
theorem dX10_waves_45 : decode cX10_waves 45 = .ok (.iconst 1, 1) := by decide +kernel
theorem dX10_waves_46 : decode cX10_waves 46 = .ok (.iload_n 1, 1) := by decide +kernel
theorem dX10_waves_47 : decode cX10_waves 47 = .ok (.ishl, 1) := by decide +kernel
theorem dX10_waves_48 : decode cX10_waves 48 = .ok (.if_icmp .ge 90, 3) := by decide +kernel
theorem dX10_waves_51 : decode cX10_waves 51 = .ok (.iload_n 2, 1) := by decide +kernel
theorem dX10_waves_52 : decode cX10_waves 52 = .ok (.istore 7, 2) := by decide +kernel
theorem dX10_waves_54 : decode cX10_waves 54 = .ok (.iload 7, 2) := by decide +kernel
theorem dX10_waves_56 : decode cX10_waves 56 = .ok (.iload_n 1, 1) := by decide +kernel
theorem dX10_waves_57 : decode cX10_waves 57 = .ok (.iconst 1, 1) := by decide +kernel
theorem dX10_waves_58 : decode cX10_waves 58 = .ok (.isub, 1) := by decide +kernel
theorem dX10_waves_59 : decode cX10_waves 59 = .ok (.if_icmp .ge 73, 3) := by decide +kernel
theorem dX10_waves_62 : decode cX10_waves 62 = .ok (.iload 6, 2) := by decide +kernel
theorem dX10_waves_64 : decode cX10_waves 64 = .ok (.iload 7, 2) := by decide +kernel
theorem dX10_waves_66 : decode cX10_waves 66 = .ok (.iload_n 2, 1) := by decide +kernel
theorem dX10_waves_67 : decode cX10_waves 67 = .ok (.invokestatic 220, 3) := by decide +kernel
theorem dX10_waves_70 : decode cX10_waves 70 = .ok (.iload 6, 2) := by decide +kernel
theorem dX10_waves_72 : decode cX10_waves 72 = .ok (.iload 7, 2) := by decide +kernel
theorem dX10_waves_74 : decode cX10_waves 74 = .ok (.iconst 1, 1) := by decide +kernel
theorem dX10_waves_75 : decode cX10_waves 75 = .ok (.isub, 1) := by decide +kernel
theorem dX10_waves_76 : decode cX10_waves 76 = .ok (.iload_n 2, 1) := by decide +kernel
theorem dX10_waves_77 : decode cX10_waves 77 = .ok (.invokestatic 220, 3) := by decide +kernel
theorem dX10_waves_80 : decode cX10_waves 80 = .ok (.if_icmp .le 28, 3) := by decide +kernel
theorem dX10_waves_83 : decode cX10_waves 83 = .ok (.iload 6, 2) := by decide +kernel
theorem dX10_waves_85 : decode cX10_waves 85 = .ok (.iload 7, 2) := by decide +kernel
theorem dX10_waves_87 : decode cX10_waves 87 = .ok (.iload_n 2, 1) := by decide +kernel
theorem dX10_waves_88 : decode cX10_waves 88 = .ok (.invokestatic 220, 3) := by decide +kernel
theorem dX10_waves_91 : decode cX10_waves 91 = .ok (.iload 6, 2) := by decide +kernel
theorem dX10_waves_93 : decode cX10_waves 93 = .ok (.iload 7, 2) := by decide +kernel
theorem dX10_waves_95 : decode cX10_waves 95 = .ok (.iconst 1, 1) := by decide +kernel
theorem dX10_waves_96 : decode cX10_waves 96 = .ok (.iadd, 1) := by decide +kernel
theorem dX10_waves_97 : decode cX10_waves 97 = .ok (.iload_n 2, 1) := by decide +kernel
theorem dX10_waves_98 : decode cX10_waves 98 = .ok (.invokestatic 220, 3) := by decide +kernel
theorem dX10_waves_101 : decode cX10_waves 101 = .ok (.if_icmp .le 7, 3) := by decide +kernel
theorem dX10_waves_104 : decode cX10_waves 104 = .ok (.iconst 1, 1) := by decide +kernel
theorem dX10_waves_105 : decode cX10_waves 105 = .ok (.goto 4, 3) := by decide +kernel
theorem dX10_waves_108 : decode cX10_waves 108 = .ok (.iconst 0, 1) := by decide +kernel
theorem dX10_waves_109 : decode cX10_waves 109 = .ok (.istore 8, 2) := by decide +kernel
theorem dX10_waves_111 : decode cX10_waves 111 = .ok (.lload 4, 2) := by decide +kernel
theorem dX10_waves_113 : decode cX10_waves 113 = .ok (.iload 8, 2) := by decide +kernel
theorem dX10_waves_115 : decode cX10_waves 115 = .ok (.ifCond .eq 7, 3) := by decide +kernel
theorem dX10_waves_118 : decode cX10_waves 118 = .ok (.lconst 1, 1) := by decide +kernel
theorem dX10_waves_119 : decode cX10_waves 119 = .ok (.goto 4, 3) := by decide +kernel
theorem dX10_waves_122 : decode cX10_waves 122 = .ok (.lconst 0, 1) := by decide +kernel
theorem dX10_waves_123 : decode cX10_waves 123 = .ok (.ladd, 1) := by decide +kernel
theorem dX10_waves_124 : decode cX10_waves 124 = .ok (.lstore 4, 2) := by decide +kernel
theorem dX10_waves_126 : decode cX10_waves 126 = .ok (.iinc 7 1, 3) := by decide +kernel
theorem dX10_waves_129 : decode cX10_waves 129 = .ok (.goto (-75), 3) := by decide +kernel
theorem dX10_waves_132 : decode cX10_waves 132 = .ok (.iinc 6 1, 3) := by decide +kernel
theorem dX10_waves_135 : decode cX10_waves 135 = .ok (.goto (-92), 3) := by decide +kernel
theorem dX10_waves_138 : decode cX10_waves 138 = .ok (.lload 4, 2) := by decide +kernel
theorem dX10_waves_140 : decode cX10_waves 140 = .ok (.lconst 1, 1) := by decide +kernel
theorem dX10_waves_141 : decode cX10_waves 141 = .ok (.iload_n 1, 1) := by decide +kernel
theorem dX10_waves_142 : decode cX10_waves 142 = .ok (.lshl, 1) := by decide +kernel
theorem dX10_waves_143 : decode cX10_waves 143 = .ok (.iload_n 3, 1) := by decide +kernel
theorem dX10_waves_144 : decode cX10_waves 144 = .ok (.invokestatic 169, 3) := by decide +kernel
theorem dX10_waves_147 : decode cX10_waves 147 = .ok (.lreturn, 1) := by decide +kernel
theorem dX10_smooth_0 : decode cX10_smooth 0 = .ok (.iconst 0, 1) := by decide +kernel
theorem dX10_smooth_1 : decode cX10_smooth 1 = .ok (.istore_n 3, 1) := by decide +kernel
theorem dX10_smooth_2 : decode cX10_smooth 2 = .ok (.iconst 0, 1) := by decide +kernel
theorem dX10_smooth_3 : decode cX10_smooth 3 = .ok (.istore 4, 2) := by decide +kernel
theorem dX10_smooth_5 : decode cX10_smooth 5 = .ok (.iload 4, 2) := by decide +kernel
theorem dX10_smooth_7 : decode cX10_smooth 7 = .ok (.iload_n 2, 1) := by decide +kernel
theorem dX10_smooth_8 : decode cX10_smooth 8 = .ok (.if_icmp .ge 24, 3) := by decide +kernel
theorem dX10_smooth_11 : decode cX10_smooth 11 = .ok (.iload_n 3, 1) := by decide +kernel
theorem dX10_smooth_12 : decode cX10_smooth 12 = .ok (.iconst 2, 1) := by decide +kernel
theorem dX10_smooth_13 : decode cX10_smooth 13 = .ok (.iload_n 0, 1) := by decide +kernel
theorem dX10_smooth_14 : decode cX10_smooth 14 = .ok (.iload_n 1, 1) := by decide +kernel
theorem dX10_smooth_15 : decode cX10_smooth 15 = .ok (.iload 4, 2) := by decide +kernel
theorem dX10_smooth_17 : decode cX10_smooth 17 = .ok (.isub, 1) := by decide +kernel
theorem dX10_smooth_18 : decode cX10_smooth 18 = .ok (.ishr, 1) := by decide +kernel
theorem dX10_smooth_19 : decode cX10_smooth 19 = .ok (.iconst 1, 1) := by decide +kernel
theorem dX10_smooth_20 : decode cX10_smooth 20 = .ok (.iand, 1) := by decide +kernel
theorem dX10_smooth_21 : decode cX10_smooth 21 = .ok (.imul, 1) := by decide +kernel
theorem dX10_smooth_22 : decode cX10_smooth 22 = .ok (.iconst 1, 1) := by decide +kernel
theorem dX10_smooth_23 : decode cX10_smooth 23 = .ok (.isub, 1) := by decide +kernel
theorem dX10_smooth_24 : decode cX10_smooth 24 = .ok (.iadd, 1) := by decide +kernel
theorem dX10_smooth_25 : decode cX10_smooth 25 = .ok (.istore_n 3, 1) := by decide +kernel
theorem dX10_smooth_26 : decode cX10_smooth 26 = .ok (.iinc 4 1, 3) := by decide +kernel
theorem dX10_smooth_29 : decode cX10_smooth 29 = .ok (.goto (-24), 3) := by decide +kernel
theorem dX10_smooth_32 : decode cX10_smooth 32 = .ok (.iload_n 3, 1) := by decide +kernel
theorem dX10_smooth_33 : decode cX10_smooth 33 = .ok (.ireturn, 1) := by decide +kernel
theorem dX10_findHeld_0 : decode cX10_findHeld 0 = .ok (.aload_n 0, 1) := by decide +kernel
theorem dX10_findHeld_1 : decode cX10_findHeld 1 = .ok (.iload_n 1, 1) := by decide +kernel
theorem dX10_findHeld_2 : decode cX10_findHeld 2 = .ok (.invokevirtual 127, 3) := by decide +kernel
theorem dX10_findHeld_5 : decode cX10_findHeld 5 = .ok (.aload_n 0, 1) := by decide +kernel
theorem dX10_findHeld_6 : decode cX10_findHeld 6 = .ok (.iload_n 2, 1) := by decide +kernel
theorem dX10_findHeld_7 : decode cX10_findHeld 7 = .ok (.invokevirtual 159, 3) := by decide +kernel
theorem dX10_findHeld_10 : decode cX10_findHeld 10 = .ok (.aload_n 0, 1) := by decide +kernel
theorem dX10_findHeld_11 : decode cX10_findHeld 11 = .ok (.iconst 2, 1) := by decide +kernel
theorem dX10_findHeld_12 : decode cX10_findHeld 12 = .ok (.putfield 224, 3) := by decide +kernel
theorem dX10_findHeld_15 : decode cX10_findHeld 15 = .ok (.aload_n 0, 1) := by decide +kernel
theorem dX10_findHeld_16 : decode cX10_findHeld 16 = .ok (.invokevirtual 162, 3) := by decide +kernel
theorem dX10_findHeld_19 : decode cX10_findHeld 19 = .ok (.lconst 0, 1) := by decide +kernel
theorem dX10_findHeld_20 : decode cX10_findHeld 20 = .ok (.lcmp, 1) := by decide +kernel
theorem dX10_findHeld_21 : decode cX10_findHeld 21 = .ok (.ifCond .ne 7, 3) := by decide +kernel
theorem dX10_findHeld_24 : decode cX10_findHeld 24 = .ok (.lconst 0, 1) := by decide +kernel
theorem dX10_findHeld_25 : decode cX10_findHeld 25 = .ok (.goto 8, 3) := by decide +kernel
theorem dX10_findHeld_28 : decode cX10_findHeld 28 = .ok (.aload_n 0, 1) := by decide +kernel
theorem dX10_findHeld_29 : decode cX10_findHeld 29 = .ok (.iconst 2, 1) := by decide +kernel
theorem dX10_findHeld_30 : decode cX10_findHeld 30 = .ok (.invokevirtual 165, 3) := by decide +kernel
theorem dX10_findHeld_33 : decode cX10_findHeld 33 = .ok (.lstore_n 3, 1) := by decide +kernel
theorem dX10_findHeld_34 : decode cX10_findHeld 34 = .ok (.iconst 3, 1) := by decide +kernel
theorem dX10_findHeld_35 : decode cX10_findHeld 35 = .ok (.istore 5, 2) := by decide +kernel
theorem dX10_findHeld_37 : decode cX10_findHeld 37 = .ok (.iload 5, 2) := by decide +kernel
theorem dX10_findHeld_39 : decode cX10_findHeld 39 = .ok (.bipush 12, 2) := by decide +kernel
theorem dX10_findHeld_41 : decode cX10_findHeld 41 = .ok (.if_icmp .gt 60, 3) := by decide +kernel
theorem dX10_findHeld_44 : decode cX10_findHeld 44 = .ok (.aload_n 0, 1) := by decide +kernel
theorem dX10_findHeld_45 : decode cX10_findHeld 45 = .ok (.invokevirtual 162, 3) := by decide +kernel
theorem dX10_findHeld_48 : decode cX10_findHeld 48 = .ok (.lconst 0, 1) := by decide +kernel
theorem dX10_findHeld_49 : decode cX10_findHeld 49 = .ok (.lcmp, 1) := by decide +kernel
theorem dX10_findHeld_50 : decode cX10_findHeld 50 = .ok (.ifCond .eq 51, 3) := by decide +kernel
theorem dX10_findHeld_53 : decode cX10_findHeld 53 = .ok (.aload_n 0, 1) := by decide +kernel
theorem dX10_findHeld_54 : decode cX10_findHeld 54 = .ok (.iload 5, 2) := by decide +kernel
theorem dX10_findHeld_56 : decode cX10_findHeld 56 = .ok (.invokevirtual 165, 3) := by decide +kernel
theorem dX10_findHeld_59 : decode cX10_findHeld 59 = .ok (.lstore 6, 2) := by decide +kernel
theorem dX10_findHeld_61 : decode cX10_findHeld 61 = .ok (.aload_n 0, 1) := by decide +kernel
theorem dX10_findHeld_62 : decode cX10_findHeld 62 = .ok (.lload 6, 2) := by decide +kernel
theorem dX10_findHeld_64 : decode cX10_findHeld 64 = .ok (.lload_n 3, 1) := by decide +kernel
theorem dX10_findHeld_65 : decode cX10_findHeld 65 = .ok (.lcmp, 1) := by decide +kernel
theorem dX10_findHeld_66 : decode cX10_findHeld 66 = .ok (.ifCond .le 8, 3) := by decide +kernel
theorem dX10_findHeld_69 : decode cX10_findHeld 69 = .ok (.iload 5, 2) := by decide +kernel
theorem dX10_findHeld_71 : decode cX10_findHeld 71 = .ok (.goto 7, 3) := by decide +kernel
theorem dX10_findHeld_74 : decode cX10_findHeld 74 = .ok (.aload_n 0, 1) := by decide +kernel
theorem dX10_findHeld_75 : decode cX10_findHeld 75 = .ok (.getfield 224, 3) := by decide +kernel
theorem dX10_findHeld_78 : decode cX10_findHeld 78 = .ok (.putfield 224, 3) := by decide +kernel
theorem dX10_findHeld_81 : decode cX10_findHeld 81 = .ok (.lload 6, 2) := by decide +kernel
theorem dX10_findHeld_83 : decode cX10_findHeld 83 = .ok (.lload_n 3, 1) := by decide +kernel
theorem dX10_findHeld_84 : decode cX10_findHeld 84 = .ok (.lcmp, 1) := by decide +kernel
theorem dX10_findHeld_85 : decode cX10_findHeld 85 = .ok (.ifCond .le 8, 3) := by decide +kernel
theorem dX10_findHeld_88 : decode cX10_findHeld 88 = .ok (.lload 6, 2) := by decide +kernel
theorem dX10_findHeld_90 : decode cX10_findHeld 90 = .ok (.goto 4, 3) := by decide +kernel
theorem dX10_findHeld_93 : decode cX10_findHeld 93 = .ok (.lload_n 3, 1) := by decide +kernel
theorem dX10_findHeld_94 : decode cX10_findHeld 94 = .ok (.lstore_n 3, 1) := by decide +kernel
theorem dX10_findHeld_95 : decode cX10_findHeld 95 = .ok (.iinc 5 1, 3) := by decide +kernel
theorem dX10_findHeld_98 : decode cX10_findHeld 98 = .ok (.goto (-61), 3) := by decide +kernel
theorem dX10_findHeld_101 : decode cX10_findHeld 101 = .ok (.aload_n 0, 1) := by decide +kernel
theorem dX10_findHeld_102 : decode cX10_findHeld 102 = .ok (.aload_n 0, 1) := by decide +kernel
theorem dX10_findHeld_103 : decode cX10_findHeld 103 = .ok (.getfield 224, 3) := by decide +kernel
theorem dX10_findHeld_106 : decode cX10_findHeld 106 = .ok (.invokevirtual 134, 3) := by decide +kernel
theorem dX10_findHeld_109 : decode cX10_findHeld 109 = .ok (.aload_n 0, 1) := by decide +kernel
theorem dX10_findHeld_110 : decode cX10_findHeld 110 = .ok (.invokevirtual 137, 3) := by decide +kernel
theorem dX10_findHeld_113 : decode cX10_findHeld 113 = .ok (.lstore 5, 2) := by decide +kernel
theorem dX10_findHeld_115 : decode cX10_findHeld 115 = .ok (.aload_n 0, 1) := by decide +kernel
theorem dX10_findHeld_116 : decode cX10_findHeld 116 = .ok (.iconst 0, 1) := by decide +kernel
theorem dX10_findHeld_117 : decode cX10_findHeld 117 = .ok (.putfield 227, 3) := by decide +kernel
theorem dX10_findHeld_120 : decode cX10_findHeld 120 = .ok (.aload_n 0, 1) := by decide +kernel
theorem dX10_findHeld_121 : decode cX10_findHeld 121 = .ok (.iconst 0, 1) := by decide +kernel
theorem dX10_findHeld_122 : decode cX10_findHeld 122 = .ok (.putfield 230, 3) := by decide +kernel
theorem dX10_findHeld_125 : decode cX10_findHeld 125 = .ok (.iload_n 2, 1) := by decide +kernel
theorem dX10_findHeld_126 : decode cX10_findHeld 126 = .ok (.istore 7, 2) := by decide +kernel
theorem dX10_findHeld_128 : decode cX10_findHeld 128 = .ok (.iload 7, 2) := by decide +kernel
theorem dX10_findHeld_130 : decode cX10_findHeld 130 = .ok (.bipush 24, 2) := by decide +kernel
theorem dX10_findHeld_132 : decode cX10_findHeld 132 = .ok (.if_icmp .ge 156, 3) := by decide +kernel
theorem dX10_findHeld_135 : decode cX10_findHeld 135 = .ok (.iload 7, 2) := by decide +kernel
theorem dX10_findHeld_137 : decode cX10_findHeld 137 = .ok (.aload_n 0, 1) := by decide +kernel
theorem dX10_findHeld_138 : decode cX10_findHeld 138 = .ok (.getfield 224, 3) := by decide +kernel
theorem dX10_findHeld_141 : decode cX10_findHeld 141 = .ok (.irem, 1) := by decide +kernel
theorem dX10_findHeld_142 : decode cX10_findHeld 142 = .ok (.istore 8, 2) := by decide +kernel
theorem dX10_findHeld_144 : decode cX10_findHeld 144 = .ok (.aload_n 0, 1) := by decide +kernel
theorem dX10_findHeld_145 : decode cX10_findHeld 145 = .ok (.getfield 16, 3) := by decide +kernel
theorem dX10_findHeld_148 : decode cX10_findHeld 148 = .ok (.iload 7, 2) := by decide +kernel
theorem dX10_findHeld_150 : decode cX10_findHeld 150 = .ok (.iaload, 1) := by decide +kernel
theorem dX10_findHeld_151 : decode cX10_findHeld 151 = .ok (.ldc 53, 2) := by decide +kernel
theorem dX10_findHeld_153 : decode cX10_findHeld 153 = .ok (.if_icmp .eq 129, 3) := by decide +kernel
theorem dX10_findHeld_156 : decode cX10_findHeld 156 = .ok (.aload_n 0, 1) := by decide +kernel
theorem dX10_findHeld_157 : decode cX10_findHeld 157 = .ok (.getfield 32, 3) := by decide +kernel
theorem dX10_findHeld_160 : decode cX10_findHeld 160 = .ok (.iload 8, 2) := by decide +kernel
theorem dX10_findHeld_162 : decode cX10_findHeld 162 = .ok (.iaload, 1) := by decide +kernel
theorem dX10_findHeld_163 : decode cX10_findHeld 163 = .ok (.ifCond .le 119, 3) := by decide +kernel
theorem dX10_findHeld_166 : decode cX10_findHeld 166 = .ok (.aload_n 0, 1) := by decide +kernel
theorem dX10_findHeld_167 : decode cX10_findHeld 167 = .ok (.getfield 16, 3) := by decide +kernel
theorem dX10_findHeld_170 : decode cX10_findHeld 170 = .ok (.iload 7, 2) := by decide +kernel
theorem dX10_findHeld_172 : decode cX10_findHeld 172 = .ok (.iaload, 1) := by decide +kernel
theorem dX10_findHeld_173 : decode cX10_findHeld 173 = .ok (.i2l, 1) := by decide +kernel
theorem dX10_findHeld_174 : decode cX10_findHeld 174 = .ok (.aload_n 0, 1) := by decide +kernel
theorem dX10_findHeld_175 : decode cX10_findHeld 175 = .ok (.getfield 131, 3) := by decide +kernel
theorem dX10_findHeld_178 : decode cX10_findHeld 178 = .ok (.i2l, 1) := by decide +kernel
theorem dX10_findHeld_179 : decode cX10_findHeld 179 = .ok (.lmul, 1) := by decide +kernel
theorem dX10_findHeld_180 : decode cX10_findHeld 180 = .ok (.lload 5, 2) := by decide +kernel
theorem dX10_findHeld_182 : decode cX10_findHeld 182 = .ok (.lsub, 1) := by decide +kernel
theorem dX10_findHeld_183 : decode cX10_findHeld 183 = .ok (.lstore 9, 2) := by decide +kernel
theorem dX10_findHeld_185 : decode cX10_findHeld 185 = .ok (.aload_n 0, 1) := by decide +kernel
theorem dX10_findHeld_186 : decode cX10_findHeld 186 = .ok (.getfield 28, 3) := by decide +kernel
theorem dX10_findHeld_189 : decode cX10_findHeld 189 = .ok (.iload 8, 2) := by decide +kernel
theorem dX10_findHeld_191 : decode cX10_findHeld 191 = .ok (.laload, 1) := by decide +kernel
theorem dX10_findHeld_192 : decode cX10_findHeld 192 = .ok (.aload_n 0, 1) := by decide +kernel
theorem dX10_findHeld_193 : decode cX10_findHeld 193 = .ok (.getfield 131, 3) := by decide +kernel
theorem dX10_findHeld_196 : decode cX10_findHeld 196 = .ok (.i2l, 1) := by decide +kernel
theorem dX10_findHeld_197 : decode cX10_findHeld 197 = .ok (.lmul, 1) := by decide +kernel
theorem dX10_findHeld_198 : decode cX10_findHeld 198 = .ok (.lload 5, 2) := by decide +kernel
theorem dX10_findHeld_200 : decode cX10_findHeld 200 = .ok (.aload_n 0, 1) := by decide +kernel
theorem dX10_findHeld_201 : decode cX10_findHeld 201 = .ok (.getfield 32, 3) := by decide +kernel
theorem dX10_findHeld_204 : decode cX10_findHeld 204 = .ok (.iload 8, 2) := by decide +kernel
theorem dX10_findHeld_206 : decode cX10_findHeld 206 = .ok (.iaload, 1) := by decide +kernel
theorem dX10_findHeld_207 : decode cX10_findHeld 207 = .ok (.i2l, 1) := by decide +kernel
theorem dX10_findHeld_208 : decode cX10_findHeld 208 = .ok (.lmul, 1) := by decide +kernel
theorem dX10_findHeld_209 : decode cX10_findHeld 209 = .ok (.lsub, 1) := by decide +kernel
theorem dX10_findHeld_210 : decode cX10_findHeld 210 = .ok (.lstore 11, 2) := by decide +kernel
theorem dX10_findHeld_212 : decode cX10_findHeld 212 = .ok (.aload_n 0, 1) := by decide +kernel
theorem dX10_findHeld_213 : decode cX10_findHeld 213 = .ok (.dup, 1) := by decide +kernel
theorem dX10_findHeld_214 : decode cX10_findHeld 214 = .ok (.getfield 230, 3) := by decide +kernel
theorem dX10_findHeld_217 : decode cX10_findHeld 217 = .ok (.lload 9, 2) := by decide +kernel
theorem dX10_findHeld_219 : decode cX10_findHeld 219 = .ok (.lconst 0, 1) := by decide +kernel
theorem dX10_findHeld_220 : decode cX10_findHeld 220 = .ok (.lcmp, 1) := by decide +kernel
theorem dX10_findHeld_221 : decode cX10_findHeld 221 = .ok (.ifCond .eq 14, 3) := by decide +kernel
theorem dX10_findHeld_224 : decode cX10_findHeld 224 = .ok (.lload 11, 2) := by decide +kernel
theorem dX10_findHeld_226 : decode cX10_findHeld 226 = .ok (.lconst 0, 1) := by decide +kernel
theorem dX10_findHeld_227 : decode cX10_findHeld 227 = .ok (.lcmp, 1) := by decide +kernel
theorem dX10_findHeld_228 : decode cX10_findHeld 228 = .ok (.ifCond .eq 7, 3) := by decide +kernel
theorem dX10_findHeld_231 : decode cX10_findHeld 231 = .ok (.iconst 1, 1) := by decide +kernel
theorem dX10_findHeld_232 : decode cX10_findHeld 232 = .ok (.goto 4, 3) := by decide +kernel
theorem dX10_findHeld_235 : decode cX10_findHeld 235 = .ok (.iconst 0, 1) := by decide +kernel
theorem dX10_findHeld_236 : decode cX10_findHeld 236 = .ok (.iadd, 1) := by decide +kernel
theorem dX10_findHeld_237 : decode cX10_findHeld 237 = .ok (.putfield 230, 3) := by decide +kernel
theorem dX10_findHeld_240 : decode cX10_findHeld 240 = .ok (.aload_n 0, 1) := by decide +kernel
theorem dX10_findHeld_241 : decode cX10_findHeld 241 = .ok (.dup, 1) := by decide +kernel
theorem dX10_findHeld_242 : decode cX10_findHeld 242 = .ok (.getfield 227, 3) := by decide +kernel
theorem dX10_findHeld_245 : decode cX10_findHeld 245 = .ok (.lload 9, 2) := by decide +kernel
theorem dX10_findHeld_247 : decode cX10_findHeld 247 = .ok (.lconst 0, 1) := by decide +kernel
theorem dX10_findHeld_248 : decode cX10_findHeld 248 = .ok (.lcmp, 1) := by decide +kernel
theorem dX10_findHeld_249 : decode cX10_findHeld 249 = .ok (.ifCond .le 10, 3) := by decide +kernel
theorem dX10_findHeld_252 : decode cX10_findHeld 252 = .ok (.lload 11, 2) := by decide +kernel
theorem dX10_findHeld_254 : decode cX10_findHeld 254 = .ok (.lconst 0, 1) := by decide +kernel
theorem dX10_findHeld_255 : decode cX10_findHeld 255 = .ok (.lcmp, 1) := by decide +kernel
theorem dX10_findHeld_256 : decode cX10_findHeld 256 = .ok (.ifCond .gt 17, 3) := by decide +kernel
theorem dX10_findHeld_259 : decode cX10_findHeld 259 = .ok (.lload 9, 2) := by decide +kernel
theorem dX10_findHeld_261 : decode cX10_findHeld 261 = .ok (.lconst 0, 1) := by decide +kernel
theorem dX10_findHeld_262 : decode cX10_findHeld 262 = .ok (.lcmp, 1) := by decide +kernel
theorem dX10_findHeld_263 : decode cX10_findHeld 263 = .ok (.ifCond .ge 14, 3) := by decide +kernel
theorem dX10_findHeld_266 : decode cX10_findHeld 266 = .ok (.lload 11, 2) := by decide +kernel
theorem dX10_findHeld_268 : decode cX10_findHeld 268 = .ok (.lconst 0, 1) := by decide +kernel
theorem dX10_findHeld_269 : decode cX10_findHeld 269 = .ok (.lcmp, 1) := by decide +kernel
theorem dX10_findHeld_270 : decode cX10_findHeld 270 = .ok (.ifCond .ge 7, 3) := by decide +kernel
theorem dX10_findHeld_273 : decode cX10_findHeld 273 = .ok (.iconst 1, 1) := by decide +kernel
theorem dX10_findHeld_274 : decode cX10_findHeld 274 = .ok (.goto 4, 3) := by decide +kernel
theorem dX10_findHeld_277 : decode cX10_findHeld 277 = .ok (.iconst 0, 1) := by decide +kernel
theorem dX10_findHeld_278 : decode cX10_findHeld 278 = .ok (.iadd, 1) := by decide +kernel
theorem dX10_findHeld_279 : decode cX10_findHeld 279 = .ok (.putfield 227, 3) := by decide +kernel
theorem dX10_findHeld_282 : decode cX10_findHeld 282 = .ok (.iinc 7 1, 3) := by decide +kernel
theorem dX10_findHeld_285 : decode cX10_findHeld 285 = .ok (.goto (-157), 3) := by decide +kernel
theorem dX10_findHeld_288 : decode cX10_findHeld 288 = .ok (.return_, 1) := by decide +kernel
theorem dX10_isAhead_0 : decode cX10_isAhead 0 = .ok (.iload_n 0, 1) := by decide +kernel
theorem dX10_isAhead_1 : decode cX10_isAhead 1 = .ok (.i2l, 1) := by decide +kernel
theorem dX10_isAhead_2 : decode cX10_isAhead 2 = .ok (.ldc2_w 233, 3) := by decide +kernel
theorem dX10_isAhead_5 : decode cX10_isAhead 5 = .ok (.ldc2_w 235, 3) := by decide +kernel
theorem dX10_isAhead_8 : decode cX10_isAhead 8 = .ok (.invokestatic 58, 3) := by decide +kernel
theorem dX10_isAhead_11 : decode cX10_isAhead 11 = .ok (.ireturn, 1) := by decide +kernel
theorem dX10_found_0 : decode cX10_found 0 = .ok (.iload_n 1, 1) := by decide +kernel
theorem dX10_found_1 : decode cX10_found 1 = .ok (.invokestatic 66, 3) := by decide +kernel
theorem dX10_found_4 : decode cX10_found 4 = .ok (.ifCond .ne 5, 3) := by decide +kernel
theorem dX10_found_7 : decode cX10_found 7 = .ok (.iconst (-1), 1) := by decide +kernel
theorem dX10_found_8 : decode cX10_found 8 = .ok (.ireturn, 1) := by decide +kernel
theorem dX10_found_9 : decode cX10_found 9 = .ok (.iload_n 2, 1) := by decide +kernel
theorem dX10_found_10 : decode cX10_found 10 = .ok (.invokestatic 237, 3) := by decide +kernel
theorem dX10_found_13 : decode cX10_found 13 = .ok (.ifCond .eq 15, 3) := by decide +kernel
theorem dX10_found_16 : decode cX10_found 16 = .ok (.iload_n 3, 1) := by decide +kernel
theorem dX10_found_17 : decode cX10_found 17 = .ok (.i2l, 1) := by decide +kernel
theorem dX10_found_18 : decode cX10_found 18 = .ok (.lconst 0, 1) := by decide +kernel
theorem dX10_found_19 : decode cX10_found 19 = .ok (.ldc2_w 143, 3) := by decide +kernel
theorem dX10_found_22 : decode cX10_found 22 = .ok (.invokestatic 58, 3) := by decide +kernel
theorem dX10_found_25 : decode cX10_found 25 = .ok (.ifCond .ne 6, 3) := by decide +kernel
theorem dX10_found_28 : decode cX10_found 28 = .ok (.bipush (-2), 2) := by decide +kernel
theorem dX10_found_30 : decode cX10_found 30 = .ok (.ireturn, 1) := by decide +kernel
theorem dX10_found_31 : decode cX10_found 31 = .ok (.aload_n 0, 1) := by decide +kernel
theorem dX10_found_32 : decode cX10_found 32 = .ok (.invokevirtual 122, 3) := by decide +kernel
theorem dX10_found_35 : decode cX10_found 35 = .ok (.ifCond .lt 6, 3) := by decide +kernel
theorem dX10_found_38 : decode cX10_found 38 = .ok (.bipush (-5), 2) := by decide +kernel
theorem dX10_found_40 : decode cX10_found 40 = .ok (.ireturn, 1) := by decide +kernel
theorem dX10_found_41 : decode cX10_found 41 = .ok (.aload_n 0, 1) := by decide +kernel
theorem dX10_found_42 : decode cX10_found 42 = .ok (.iload_n 1, 1) := by decide +kernel
theorem dX10_found_43 : decode cX10_found 43 = .ok (.iload_n 2, 1) := by decide +kernel
theorem dX10_found_44 : decode cX10_found 44 = .ok (.invokevirtual 240, 3) := by decide +kernel
theorem dX10_found_47 : decode cX10_found 47 = .ok (.iload_n 3, 1) := by decide +kernel
theorem dX10_found_48 : decode cX10_found 48 = .ok (.ifCond .ne 10, 3) := by decide +kernel
theorem dX10_found_51 : decode cX10_found 51 = .ok (.aload_n 0, 1) := by decide +kernel
theorem dX10_found_52 : decode cX10_found 52 = .ok (.getfield 224, 3) := by decide +kernel
theorem dX10_found_55 : decode cX10_found 55 = .ok (.goto 19, 3) := by decide +kernel
theorem dX10_found_58 : decode cX10_found 58 = .ok (.iload_n 3, 1) := by decide +kernel
theorem dX10_found_59 : decode cX10_found 59 = .ok (.iconst 1, 1) := by decide +kernel
theorem dX10_found_60 : decode cX10_found 60 = .ok (.if_icmp .ne 10, 3) := by decide +kernel
theorem dX10_found_63 : decode cX10_found 63 = .ok (.aload_n 0, 1) := by decide +kernel
theorem dX10_found_64 : decode cX10_found 64 = .ok (.getfield 227, 3) := by decide +kernel
theorem dX10_found_67 : decode cX10_found 67 = .ok (.goto 7, 3) := by decide +kernel
theorem dX10_found_70 : decode cX10_found 70 = .ok (.aload_n 0, 1) := by decide +kernel
theorem dX10_found_71 : decode cX10_found 71 = .ok (.getfield 230, 3) := by decide +kernel
theorem dX10_found_74 : decode cX10_found 74 = .ok (.ireturn, 1) := by decide +kernel
theorem dX10_choose_0 : decode cX10_choose 0 = .ok (.lconst 1, 1) := by decide +kernel
theorem dX10_choose_1 : decode cX10_choose 1 = .ok (.lstore_n 2, 1) := by decide +kernel
theorem dX10_choose_2 : decode cX10_choose 2 = .ok (.iconst 1, 1) := by decide +kernel
theorem dX10_choose_3 : decode cX10_choose 3 = .ok (.istore 4, 2) := by decide +kernel
theorem dX10_choose_5 : decode cX10_choose 5 = .ok (.iload 4, 2) := by decide +kernel
theorem dX10_choose_7 : decode cX10_choose 7 = .ok (.iload_n 1, 1) := by decide +kernel
theorem dX10_choose_8 : decode cX10_choose 8 = .ok (.if_icmp .gt 23, 3) := by decide +kernel
theorem dX10_choose_11 : decode cX10_choose 11 = .ok (.lload_n 2, 1) := by decide +kernel
theorem dX10_choose_12 : decode cX10_choose 12 = .ok (.iload_n 0, 1) := by decide +kernel
theorem dX10_choose_13 : decode cX10_choose 13 = .ok (.iload_n 1, 1) := by decide +kernel
theorem dX10_choose_14 : decode cX10_choose 14 = .ok (.isub, 1) := by decide +kernel
theorem dX10_choose_15 : decode cX10_choose 15 = .ok (.iload 4, 2) := by decide +kernel
theorem dX10_choose_17 : decode cX10_choose 17 = .ok (.iadd, 1) := by decide +kernel
theorem dX10_choose_18 : decode cX10_choose 18 = .ok (.i2l, 1) := by decide +kernel
theorem dX10_choose_19 : decode cX10_choose 19 = .ok (.lmul, 1) := by decide +kernel
theorem dX10_choose_20 : decode cX10_choose 20 = .ok (.iload 4, 2) := by decide +kernel
theorem dX10_choose_22 : decode cX10_choose 22 = .ok (.i2l, 1) := by decide +kernel
theorem dX10_choose_23 : decode cX10_choose 23 = .ok (.ldiv, 1) := by decide +kernel
theorem dX10_choose_24 : decode cX10_choose 24 = .ok (.lstore_n 2, 1) := by decide +kernel
theorem dX10_choose_25 : decode cX10_choose 25 = .ok (.iinc 4 1, 3) := by decide +kernel
theorem dX10_choose_28 : decode cX10_choose 28 = .ok (.goto (-23), 3) := by decide +kernel
theorem dX10_choose_31 : decode cX10_choose 31 = .ok (.lload_n 2, 1) := by decide +kernel
theorem dX10_choose_32 : decode cX10_choose 32 = .ok (.lreturn, 1) := by decide +kernel
theorem dX10_luck_0 : decode cX10_luck 0 = .ok (.iload_n 1, 1) := by decide +kernel
theorem dX10_luck_1 : decode cX10_luck 1 = .ok (.invokestatic 66, 3) := by decide +kernel
theorem dX10_luck_4 : decode cX10_luck 4 = .ok (.ifCond .ne 7, 3) := by decide +kernel
theorem dX10_luck_7 : decode cX10_luck 7 = .ok (.ldc2_w 147, 3) := by decide +kernel
theorem dX10_luck_10 : decode cX10_luck 10 = .ok (.lreturn, 1) := by decide +kernel
theorem dX10_luck_11 : decode cX10_luck 11 = .ok (.iload_n 2, 1) := by decide +kernel
theorem dX10_luck_12 : decode cX10_luck 12 = .ok (.invokestatic 237, 3) := by decide +kernel
theorem dX10_luck_15 : decode cX10_luck 15 = .ok (.ifCond .eq 10, 3) := by decide +kernel
theorem dX10_luck_18 : decode cX10_luck 18 = .ok (.iload_n 3, 1) := by decide +kernel
theorem dX10_luck_19 : decode cX10_luck 19 = .ok (.invokestatic 152, 3) := by decide +kernel
theorem dX10_luck_22 : decode cX10_luck 22 = .ok (.ifCond .ne 7, 3) := by decide +kernel
theorem dX10_luck_25 : decode cX10_luck 25 = .ok (.ldc2_w 155, 3) := by decide +kernel
theorem dX10_luck_28 : decode cX10_luck 28 = .ok (.lreturn, 1) := by decide +kernel
theorem dX10_luck_29 : decode cX10_luck 29 = .ok (.aload_n 0, 1) := by decide +kernel
theorem dX10_luck_30 : decode cX10_luck 30 = .ok (.invokevirtual 122, 3) := by decide +kernel
theorem dX10_luck_33 : decode cX10_luck 33 = .ok (.ifCond .lt 7, 3) := by decide +kernel
theorem dX10_luck_36 : decode cX10_luck 36 = .ok (.ldc2_w 157, 3) := by decide +kernel
theorem dX10_luck_39 : decode cX10_luck 39 = .ok (.lreturn, 1) := by decide +kernel
theorem dX10_luck_40 : decode cX10_luck 40 = .ok (.aload_n 0, 1) := by decide +kernel
theorem dX10_luck_41 : decode cX10_luck 41 = .ok (.iload_n 1, 1) := by decide +kernel
theorem dX10_luck_42 : decode cX10_luck 42 = .ok (.iload_n 2, 1) := by decide +kernel
theorem dX10_luck_43 : decode cX10_luck 43 = .ok (.invokevirtual 240, 3) := by decide +kernel
theorem dX10_luck_46 : decode cX10_luck 46 = .ok (.lconst 0, 1) := by decide +kernel
theorem dX10_luck_47 : decode cX10_luck 47 = .ok (.lstore 4, 2) := by decide +kernel
theorem dX10_luck_49 : decode cX10_luck 49 = .ok (.aload_n 0, 1) := by decide +kernel
theorem dX10_luck_50 : decode cX10_luck 50 = .ok (.getfield 227, 3) := by decide +kernel
theorem dX10_luck_53 : decode cX10_luck 53 = .ok (.istore 6, 2) := by decide +kernel
theorem dX10_luck_55 : decode cX10_luck 55 = .ok (.iload 6, 2) := by decide +kernel
theorem dX10_luck_57 : decode cX10_luck 57 = .ok (.aload_n 0, 1) := by decide +kernel
theorem dX10_luck_58 : decode cX10_luck 58 = .ok (.getfield 230, 3) := by decide +kernel
theorem dX10_luck_61 : decode cX10_luck 61 = .ok (.if_icmp .gt 23, 3) := by decide +kernel
theorem dX10_luck_64 : decode cX10_luck 64 = .ok (.lload 4, 2) := by decide +kernel
theorem dX10_luck_66 : decode cX10_luck 66 = .ok (.aload_n 0, 1) := by decide +kernel
theorem dX10_luck_67 : decode cX10_luck 67 = .ok (.getfield 230, 3) := by decide +kernel
theorem dX10_luck_70 : decode cX10_luck 70 = .ok (.iload 6, 2) := by decide +kernel
theorem dX10_luck_72 : decode cX10_luck 72 = .ok (.invokestatic 243, 3) := by decide +kernel
theorem dX10_luck_75 : decode cX10_luck 75 = .ok (.ladd, 1) := by decide +kernel
theorem dX10_luck_76 : decode cX10_luck 76 = .ok (.lstore 4, 2) := by decide +kernel
theorem dX10_luck_78 : decode cX10_luck 78 = .ok (.iinc 6 1, 3) := by decide +kernel
theorem dX10_luck_81 : decode cX10_luck 81 = .ok (.goto (-26), 3) := by decide +kernel
theorem dX10_luck_84 : decode cX10_luck 84 = .ok (.lload 4, 2) := by decide +kernel
theorem dX10_luck_86 : decode cX10_luck 86 = .ok (.lconst 1, 1) := by decide +kernel
theorem dX10_luck_87 : decode cX10_luck 87 = .ok (.aload_n 0, 1) := by decide +kernel
theorem dX10_luck_88 : decode cX10_luck 88 = .ok (.getfield 230, 3) := by decide +kernel
theorem dX10_luck_91 : decode cX10_luck 91 = .ok (.lshl, 1) := by decide +kernel
theorem dX10_luck_92 : decode cX10_luck 92 = .ok (.iload_n 3, 1) := by decide +kernel
theorem dX10_luck_93 : decode cX10_luck 93 = .ok (.invokestatic 169, 3) := by decide +kernel
theorem dX10_luck_96 : decode cX10_luck 96 = .ok (.lreturn, 1) := by decide +kernel
theorem dX10_isTrial_0 : decode cX10_isTrial 0 = .ok (.iload_n 1, 1) := by decide +kernel
theorem dX10_isTrial_1 : decode cX10_isTrial 1 = .ok (.i2l, 1) := by decide +kernel
theorem dX10_isTrial_2 : decode cX10_isTrial 2 = .ok (.lconst 0, 1) := by decide +kernel
theorem dX10_isTrial_3 : decode cX10_isTrial 3 = .ok (.aload_n 0, 1) := by decide +kernel
theorem dX10_isTrial_4 : decode cX10_isTrial 4 = .ok (.getfield 246, 3) := by decide +kernel
theorem dX10_isTrial_7 : decode cX10_isTrial 7 = .ok (.iconst 1, 1) := by decide +kernel
theorem dX10_isTrial_8 : decode cX10_isTrial 8 = .ok (.isub, 1) := by decide +kernel
theorem dX10_isTrial_9 : decode cX10_isTrial 9 = .ok (.i2l, 1) := by decide +kernel
theorem dX10_isTrial_10 : decode cX10_isTrial 10 = .ok (.invokestatic 58, 3) := by decide +kernel
theorem dX10_isTrial_13 : decode cX10_isTrial 13 = .ok (.ireturn, 1) := by decide +kernel
theorem dX10_trial_0 : decode cX10_trial 0 = .ok (.iload_n 1, 1) := by decide +kernel
theorem dX10_trial_1 : decode cX10_trial 1 = .ok (.invokestatic 66, 3) := by decide +kernel
theorem dX10_trial_4 : decode cX10_trial 4 = .ok (.ifCond .ne 5, 3) := by decide +kernel
theorem dX10_trial_7 : decode cX10_trial 7 = .ok (.iconst (-1), 1) := by decide +kernel
theorem dX10_trial_8 : decode cX10_trial 8 = .ok (.ireturn, 1) := by decide +kernel
theorem dX10_trial_9 : decode cX10_trial 9 = .ok (.iload_n 2, 1) := by decide +kernel
theorem dX10_trial_10 : decode cX10_trial 10 = .ok (.invokestatic 149, 3) := by decide +kernel
theorem dX10_trial_13 : decode cX10_trial 13 = .ok (.ifCond .ne 6, 3) := by decide +kernel
theorem dX10_trial_16 : decode cX10_trial 16 = .ok (.bipush (-2), 2) := by decide +kernel
theorem dX10_trial_18 : decode cX10_trial 18 = .ok (.ireturn, 1) := by decide +kernel
theorem dX10_trial_19 : decode cX10_trial 19 = .ok (.aload_n 0, 1) := by decide +kernel
theorem dX10_trial_20 : decode cX10_trial 20 = .ok (.invokevirtual 122, 3) := by decide +kernel
theorem dX10_trial_23 : decode cX10_trial 23 = .ok (.ifCond .lt 6, 3) := by decide +kernel
theorem dX10_trial_26 : decode cX10_trial 26 = .ok (.bipush (-5), 2) := by decide +kernel
theorem dX10_trial_28 : decode cX10_trial 28 = .ok (.ireturn, 1) := by decide +kernel
theorem dX10_trial_29 : decode cX10_trial 29 = .ok (.aload_n 0, 1) := by decide +kernel
theorem dX10_trial_30 : decode cX10_trial 30 = .ok (.getfield 246, 3) := by decide +kernel
theorem dX10_trial_33 : decode cX10_trial 33 = .ok (.bipush 20, 2) := by decide +kernel
theorem dX10_trial_35 : decode cX10_trial 35 = .ok (.if_icmp .ne 6, 3) := by decide +kernel
theorem dX10_trial_38 : decode cX10_trial 38 = .ok (.bipush (-4), 2) := by decide +kernel
theorem dX10_trial_40 : decode cX10_trial 40 = .ok (.ireturn, 1) := by decide +kernel
theorem dX10_trial_41 : decode cX10_trial 41 = .ok (.aload_n 0, 1) := by decide +kernel
theorem dX10_trial_42 : decode cX10_trial 42 = .ok (.iload_n 1, 1) := by decide +kernel
theorem dX10_trial_43 : decode cX10_trial 43 = .ok (.invokevirtual 127, 3) := by decide +kernel
theorem dX10_trial_46 : decode cX10_trial 46 = .ok (.aload_n 0, 1) := by decide +kernel
theorem dX10_trial_47 : decode cX10_trial 47 = .ok (.bipush 24, 2) := by decide +kernel
theorem dX10_trial_49 : decode cX10_trial 49 = .ok (.invokevirtual 159, 3) := by decide +kernel
theorem dX10_trial_52 : decode cX10_trial 52 = .ok (.aload_n 0, 1) := by decide +kernel
theorem dX10_trial_53 : decode cX10_trial 53 = .ok (.invokevirtual 162, 3) := by decide +kernel
theorem dX10_trial_56 : decode cX10_trial 56 = .ok (.lstore_n 3, 1) := by decide +kernel
theorem dX10_trial_57 : decode cX10_trial 57 = .ok (.aload_n 0, 1) := by decide +kernel
theorem dX10_trial_58 : decode cX10_trial 58 = .ok (.getfield 41, 3) := by decide +kernel
theorem dX10_trial_61 : decode cX10_trial 61 = .ok (.aload_n 0, 1) := by decide +kernel
theorem dX10_trial_62 : decode cX10_trial 62 = .ok (.getfield 246, 3) := by decide +kernel
theorem dX10_trial_65 : decode cX10_trial 65 = .ok (.iload_n 1, 1) := by decide +kernel
theorem dX10_trial_66 : decode cX10_trial 66 = .ok (.iastore, 1) := by decide +kernel
theorem dX10_trial_67 : decode cX10_trial 67 = .ok (.aload_n 0, 1) := by decide +kernel
theorem dX10_trial_68 : decode cX10_trial 68 = .ok (.getfield 44, 3) := by decide +kernel
theorem dX10_trial_71 : decode cX10_trial 71 = .ok (.aload_n 0, 1) := by decide +kernel
theorem dX10_trial_72 : decode cX10_trial 72 = .ok (.getfield 246, 3) := by decide +kernel
theorem dX10_trial_75 : decode cX10_trial 75 = .ok (.iload_n 2, 1) := by decide +kernel
theorem dX10_trial_76 : decode cX10_trial 76 = .ok (.iastore, 1) := by decide +kernel
theorem dX10_trial_77 : decode cX10_trial 77 = .ok (.aload_n 0, 1) := by decide +kernel
theorem dX10_trial_78 : decode cX10_trial 78 = .ok (.getfield 47, 3) := by decide +kernel
theorem dX10_trial_81 : decode cX10_trial 81 = .ok (.aload_n 0, 1) := by decide +kernel
theorem dX10_trial_82 : decode cX10_trial 82 = .ok (.getfield 246, 3) := by decide +kernel
theorem dX10_trial_85 : decode cX10_trial 85 = .ok (.lload_n 3, 1) := by decide +kernel
theorem dX10_trial_86 : decode cX10_trial 86 = .ok (.lconst 0, 1) := by decide +kernel
theorem dX10_trial_87 : decode cX10_trial 87 = .ok (.lcmp, 1) := by decide +kernel
theorem dX10_trial_88 : decode cX10_trial 88 = .ok (.ifCond .ne 7, 3) := by decide +kernel
theorem dX10_trial_91 : decode cX10_trial 91 = .ok (.iconst 0, 1) := by decide +kernel
theorem dX10_trial_92 : decode cX10_trial 92 = .ok (.goto 15, 3) := by decide +kernel
theorem dX10_trial_95 : decode cX10_trial 95 = .ok (.ldc2_w 193, 3) := by decide +kernel
theorem dX10_trial_98 : decode cX10_trial 98 = .ok (.aload_n 0, 1) := by decide +kernel
theorem dX10_trial_99 : decode cX10_trial 99 = .ok (.iload_n 2, 1) := by decide +kernel
theorem dX10_trial_100 : decode cX10_trial 100 = .ok (.invokevirtual 165, 3) := by decide +kernel
theorem dX10_trial_103 : decode cX10_trial 103 = .ok (.lmul, 1) := by decide +kernel
theorem dX10_trial_104 : decode cX10_trial 104 = .ok (.lload_n 3, 1) := by decide +kernel
theorem dX10_trial_105 : decode cX10_trial 105 = .ok (.ldiv, 1) := by decide +kernel
theorem dX10_trial_106 : decode cX10_trial 106 = .ok (.l2i, 1) := by decide +kernel
theorem dX10_trial_107 : decode cX10_trial 107 = .ok (.iastore, 1) := by decide +kernel
theorem dX10_trial_108 : decode cX10_trial 108 = .ok (.aload_n 0, 1) := by decide +kernel
theorem dX10_trial_109 : decode cX10_trial 109 = .ok (.dup, 1) := by decide +kernel
theorem dX10_trial_110 : decode cX10_trial 110 = .ok (.getfield 246, 3) := by decide +kernel
theorem dX10_trial_113 : decode cX10_trial 113 = .ok (.iconst 1, 1) := by decide +kernel
theorem dX10_trial_114 : decode cX10_trial 114 = .ok (.iadd, 1) := by decide +kernel
theorem dX10_trial_115 : decode cX10_trial 115 = .ok (.putfield 246, 3) := by decide +kernel
theorem dX10_trial_118 : decode cX10_trial 118 = .ok (.aload_n 0, 1) := by decide +kernel
theorem dX10_trial_119 : decode cX10_trial 119 = .ok (.getfield 246, 3) := by decide +kernel
theorem dX10_trial_122 : decode cX10_trial 122 = .ok (.iconst 1, 1) := by decide +kernel
theorem dX10_trial_123 : decode cX10_trial 123 = .ok (.isub, 1) := by decide +kernel
theorem dX10_trial_124 : decode cX10_trial 124 = .ok (.ireturn, 1) := by decide +kernel
theorem dX10_of_0 : decode cX10_of 0 = .ok (.aload_n 0, 1) := by decide +kernel
theorem dX10_of_1 : decode cX10_of 1 = .ok (.iload_n 1, 1) := by decide +kernel
theorem dX10_of_2 : decode cX10_of 2 = .ok (.invokevirtual 249, 3) := by decide +kernel
theorem dX10_of_5 : decode cX10_of 5 = .ok (.ifCond .ne 5, 3) := by decide +kernel
theorem dX10_of_8 : decode cX10_of 8 = .ok (.iconst (-1), 1) := by decide +kernel
theorem dX10_of_9 : decode cX10_of 9 = .ok (.ireturn, 1) := by decide +kernel
theorem dX10_of_10 : decode cX10_of 10 = .ok (.iload_n 2, 1) := by decide +kernel
theorem dX10_of_11 : decode cX10_of 11 = .ok (.tableswitch 59 0 3 #[29, 36, 43, 50], 29) := by decide +kernel
theorem dX10_of_40 : decode cX10_of 40 = .ok (.aload_n 0, 1) := by decide +kernel
theorem dX10_of_41 : decode cX10_of 41 = .ok (.getfield 41, 3) := by decide +kernel
theorem dX10_of_44 : decode cX10_of 44 = .ok (.iload_n 1, 1) := by decide +kernel
theorem dX10_of_45 : decode cX10_of 45 = .ok (.iaload, 1) := by decide +kernel
theorem dX10_of_46 : decode cX10_of 46 = .ok (.ireturn, 1) := by decide +kernel
theorem dX10_of_47 : decode cX10_of 47 = .ok (.aload_n 0, 1) := by decide +kernel
theorem dX10_of_48 : decode cX10_of 48 = .ok (.getfield 44, 3) := by decide +kernel
theorem dX10_of_51 : decode cX10_of 51 = .ok (.iload_n 1, 1) := by decide +kernel
theorem dX10_of_52 : decode cX10_of 52 = .ok (.iaload, 1) := by decide +kernel
theorem dX10_of_53 : decode cX10_of 53 = .ok (.ireturn, 1) := by decide +kernel
theorem dX10_of_54 : decode cX10_of 54 = .ok (.aload_n 0, 1) := by decide +kernel
theorem dX10_of_55 : decode cX10_of 55 = .ok (.getfield 47, 3) := by decide +kernel
theorem dX10_of_58 : decode cX10_of 58 = .ok (.iload_n 1, 1) := by decide +kernel
theorem dX10_of_59 : decode cX10_of 59 = .ok (.iaload, 1) := by decide +kernel
theorem dX10_of_60 : decode cX10_of 60 = .ok (.ireturn, 1) := by decide +kernel
theorem dX10_of_61 : decode cX10_of 61 = .ok (.aload_n 0, 1) := by decide +kernel
theorem dX10_of_62 : decode cX10_of 62 = .ok (.getfield 252, 3) := by decide +kernel
theorem dX10_of_65 : decode cX10_of 65 = .ok (.iload_n 1, 1) := by decide +kernel
theorem dX10_of_66 : decode cX10_of 66 = .ok (.ishr, 1) := by decide +kernel
theorem dX10_of_67 : decode cX10_of 67 = .ok (.iconst 1, 1) := by decide +kernel
theorem dX10_of_68 : decode cX10_of 68 = .ok (.iand, 1) := by decide +kernel
theorem dX10_of_69 : decode cX10_of 69 = .ok (.ireturn, 1) := by decide +kernel
theorem dX10_of_70 : decode cX10_of 70 = .ok (.bipush (-2), 2) := by decide +kernel
theorem dX10_of_72 : decode cX10_of 72 = .ok (.ireturn, 1) := by decide +kernel
theorem dX10_print_0 : decode cX10_print 0 = .ok (.aload_n 0, 1) := by decide +kernel
theorem dX10_print_1 : decode cX10_print 1 = .ok (.iload_n 1, 1) := by decide +kernel
theorem dX10_print_2 : decode cX10_print 2 = .ok (.invokevirtual 249, 3) := by decide +kernel
theorem dX10_print_5 : decode cX10_print 5 = .ok (.ifCond .ne 5, 3) := by decide +kernel
theorem dX10_print_8 : decode cX10_print 8 = .ok (.iconst (-1), 1) := by decide +kernel
theorem dX10_print_9 : decode cX10_print 9 = .ok (.ireturn, 1) := by decide +kernel
theorem dX10_print_10 : decode cX10_print 10 = .ok (.aload_n 0, 1) := by decide +kernel
theorem dX10_print_11 : decode cX10_print 11 = .ok (.getfield 252, 3) := by decide +kernel
theorem dX10_print_14 : decode cX10_print 14 = .ok (.iload_n 1, 1) := by decide +kernel
theorem dX10_print_15 : decode cX10_print 15 = .ok (.ishr, 1) := by decide +kernel
theorem dX10_print_16 : decode cX10_print 16 = .ok (.iconst 1, 1) := by decide +kernel
theorem dX10_print_17 : decode cX10_print 17 = .ok (.iand, 1) := by decide +kernel
theorem dX10_print_18 : decode cX10_print 18 = .ok (.istore_n 3, 1) := by decide +kernel
theorem dX10_print_19 : decode cX10_print 19 = .ok (.aload_n 0, 1) := by decide +kernel
theorem dX10_print_20 : decode cX10_print 20 = .ok (.iload_n 2, 1) := by decide +kernel
theorem dX10_print_21 : decode cX10_print 21 = .ok (.ifCond .eq 14, 3) := by decide +kernel
theorem dX10_print_24 : decode cX10_print 24 = .ok (.aload_n 0, 1) := by decide +kernel
theorem dX10_print_25 : decode cX10_print 25 = .ok (.getfield 252, 3) := by decide +kernel
theorem dX10_print_28 : decode cX10_print 28 = .ok (.iconst 1, 1) := by decide +kernel
theorem dX10_print_29 : decode cX10_print 29 = .ok (.iload_n 1, 1) := by decide +kernel
theorem dX10_print_30 : decode cX10_print 30 = .ok (.ishl, 1) := by decide +kernel
theorem dX10_print_31 : decode cX10_print 31 = .ok (.ior, 1) := by decide +kernel
theorem dX10_print_32 : decode cX10_print 32 = .ok (.goto 13, 3) := by decide +kernel
theorem dX10_print_35 : decode cX10_print 35 = .ok (.aload_n 0, 1) := by decide +kernel
theorem dX10_print_36 : decode cX10_print 36 = .ok (.getfield 252, 3) := by decide +kernel
theorem dX10_print_39 : decode cX10_print 39 = .ok (.iconst 1, 1) := by decide +kernel
theorem dX10_print_40 : decode cX10_print 40 = .ok (.iload_n 1, 1) := by decide +kernel
theorem dX10_print_41 : decode cX10_print 41 = .ok (.ishl, 1) := by decide +kernel
theorem dX10_print_42 : decode cX10_print 42 = .ok (.iconst (-1), 1) := by decide +kernel
theorem dX10_print_43 : decode cX10_print 43 = .ok (.ixor, 1) := by decide +kernel
theorem dX10_print_44 : decode cX10_print 44 = .ok (.iand, 1) := by decide +kernel
theorem dX10_print_45 : decode cX10_print 45 = .ok (.putfield 252, 3) := by decide +kernel
theorem dX10_print_48 : decode cX10_print 48 = .ok (.iload_n 3, 1) := by decide +kernel
theorem dX10_print_49 : decode cX10_print 49 = .ok (.ireturn, 1) := by decide +kernel
theorem dX10_lean_0 : decode cX10_lean 0 = .ok (.iload_n 1, 1) := by decide +kernel
theorem dX10_lean_1 : decode cX10_lean 1 = .ok (.invokestatic 152, 3) := by decide +kernel
theorem dX10_lean_4 : decode cX10_lean 4 = .ok (.ifCond .ne 7, 3) := by decide +kernel
theorem dX10_lean_7 : decode cX10_lean 7 = .ok (.ldc2_w 155, 3) := by decide +kernel
theorem dX10_lean_10 : decode cX10_lean 10 = .ok (.lreturn, 1) := by decide +kernel
theorem dX10_lean_11 : decode cX10_lean 11 = .ok (.aload_n 0, 1) := by decide +kernel
theorem dX10_lean_12 : decode cX10_lean 12 = .ok (.getfield 252, 3) := by decide +kernel
theorem dX10_lean_15 : decode cX10_lean 15 = .ok (.invokestatic 255, 3) := by decide +kernel
theorem dX10_lean_18 : decode cX10_lean 18 = .ok (.istore_n 2, 1) := by decide +kernel
theorem dX10_lean_19 : decode cX10_lean 19 = .ok (.iload_n 2, 1) := by decide +kernel
theorem dX10_lean_20 : decode cX10_lean 20 = .ok (.ifCond .ne 7, 3) := by decide +kernel
theorem dX10_lean_23 : decode cX10_lean 23 = .ok (.ldc2_w 191, 3) := by decide +kernel
theorem dX10_lean_26 : decode cX10_lean 26 = .ok (.lreturn, 1) := by decide +kernel
theorem dX10_lean_27 : decode cX10_lean 27 = .ok (.lconst 0, 1) := by decide +kernel
theorem dX10_lean_28 : decode cX10_lean 28 = .ok (.lstore_n 3, 1) := by decide +kernel
theorem dX10_lean_29 : decode cX10_lean 29 = .ok (.lconst 0, 1) := by decide +kernel
theorem dX10_lean_30 : decode cX10_lean 30 = .ok (.lstore 5, 2) := by decide +kernel
theorem dX10_lean_32 : decode cX10_lean 32 = .ok (.iconst 0, 1) := by decide +kernel
theorem dX10_lean_33 : decode cX10_lean 33 = .ok (.istore 7, 2) := by decide +kernel
theorem dX10_lean_35 : decode cX10_lean 35 = .ok (.iload 7, 2) := by decide +kernel
theorem dX10_lean_37 : decode cX10_lean 37 = .ok (.aload_n 0, 1) := by decide +kernel
theorem dX10_lean_38 : decode cX10_lean 38 = .ok (.getfield 246, 3) := by decide +kernel
theorem dX10_lean_41 : decode cX10_lean 41 = .ok (.if_icmp .ge 50, 3) := by decide +kernel
theorem dX10_lean_44 : decode cX10_lean 44 = .ok (.lload_n 3, 1) := by decide +kernel
theorem dX10_lean_45 : decode cX10_lean 45 = .ok (.aload_n 0, 1) := by decide +kernel
theorem dX10_lean_46 : decode cX10_lean 46 = .ok (.getfield 47, 3) := by decide +kernel
theorem dX10_lean_49 : decode cX10_lean 49 = .ok (.iload 7, 2) := by decide +kernel
theorem dX10_lean_51 : decode cX10_lean 51 = .ok (.iaload, 1) := by decide +kernel
theorem dX10_lean_52 : decode cX10_lean 52 = .ok (.i2l, 1) := by decide +kernel
theorem dX10_lean_53 : decode cX10_lean 53 = .ok (.ladd, 1) := by decide +kernel
theorem dX10_lean_54 : decode cX10_lean 54 = .ok (.lstore_n 3, 1) := by decide +kernel
theorem dX10_lean_55 : decode cX10_lean 55 = .ok (.lload 5, 2) := by decide +kernel
theorem dX10_lean_57 : decode cX10_lean 57 = .ok (.aload_n 0, 1) := by decide +kernel
theorem dX10_lean_58 : decode cX10_lean 58 = .ok (.getfield 252, 3) := by decide +kernel
theorem dX10_lean_61 : decode cX10_lean 61 = .ok (.iload 7, 2) := by decide +kernel
theorem dX10_lean_63 : decode cX10_lean 63 = .ok (.ishr, 1) := by decide +kernel
theorem dX10_lean_64 : decode cX10_lean 64 = .ok (.iconst 1, 1) := by decide +kernel
theorem dX10_lean_65 : decode cX10_lean 65 = .ok (.iand, 1) := by decide +kernel
theorem dX10_lean_66 : decode cX10_lean 66 = .ok (.iconst 1, 1) := by decide +kernel
theorem dX10_lean_67 : decode cX10_lean 67 = .ok (.if_icmp .ne 14, 3) := by decide +kernel
theorem dX10_lean_70 : decode cX10_lean 70 = .ok (.aload_n 0, 1) := by decide +kernel
theorem dX10_lean_71 : decode cX10_lean 71 = .ok (.getfield 47, 3) := by decide +kernel
theorem dX10_lean_74 : decode cX10_lean 74 = .ok (.iload 7, 2) := by decide +kernel
theorem dX10_lean_76 : decode cX10_lean 76 = .ok (.iaload, 1) := by decide +kernel
theorem dX10_lean_77 : decode cX10_lean 77 = .ok (.i2l, 1) := by decide +kernel
theorem dX10_lean_78 : decode cX10_lean 78 = .ok (.goto 4, 3) := by decide +kernel
