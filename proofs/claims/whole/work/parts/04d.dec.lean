theorem dX12_evening_114 : decode cX12_evening 114 = .ok (.iconst 4, 1) := by decide +kernel
theorem dX12_evening_115 : decode cX12_evening 115 = .ok (.iconst 0, 1) := by decide +kernel
theorem dX12_evening_116 : decode cX12_evening 116 = .ok (.iastore, 1) := by decide +kernel
theorem dX12_evening_117 : decode cX12_evening 117 = .ok (.aload_n 0, 1) := by decide +kernel
theorem dX12_evening_118 : decode cX12_evening 118 = .ok (.iload_n 1, 1) := by decide +kernel
theorem dX12_evening_119 : decode cX12_evening 119 = .ok (.putfield 309, 3) := by decide +kernel
theorem dX12_evening_122 : decode cX12_evening 122 = .ok (.iconst 0, 1) := by decide +kernel
theorem dX12_evening_123 : decode cX12_evening 123 = .ok (.istore 5, 2) := by decide +kernel
theorem dX12_evening_125 : decode cX12_evening 125 = .ok (.iload 5, 2) := by decide +kernel
theorem dX12_evening_127 : decode cX12_evening 127 = .ok (.iload_n 2, 1) := by decide +kernel
theorem dX12_evening_128 : decode cX12_evening 128 = .ok (.if_icmp .ge 58, 3) := by decide +kernel
theorem dX12_evening_131 : decode cX12_evening 131 = .ok (.aload_n 0, 1) := by decide +kernel
theorem dX12_evening_132 : decode cX12_evening 132 = .ok (.bipush 20, 2) := by decide +kernel
theorem dX12_evening_134 : decode cX12_evening 134 = .ok (.invokevirtual 312, 3) := by decide +kernel
theorem dX12_evening_137 : decode cX12_evening 137 = .ok (.istore 6, 2) := by decide +kernel
theorem dX12_evening_139 : decode cX12_evening 139 = .ok (.aload_n 0, 1) := by decide +kernel
theorem dX12_evening_140 : decode cX12_evening 140 = .ok (.aload_n 0, 1) := by decide +kernel
theorem dX12_evening_141 : decode cX12_evening 141 = .ok (.invokevirtual 74, 3) := by decide +kernel
theorem dX12_evening_144 : decode cX12_evening 144 = .ok (.invokevirtual 312, 3) := by decide +kernel
theorem dX12_evening_147 : decode cX12_evening 147 = .ok (.istore 7, 2) := by decide +kernel
theorem dX12_evening_149 : decode cX12_evening 149 = .ok (.aload_n 0, 1) := by decide +kernel
theorem dX12_evening_150 : decode cX12_evening 150 = .ok (.aload_n 0, 1) := by decide +kernel
theorem dX12_evening_151 : decode cX12_evening 151 = .ok (.invokevirtual 82, 3) := by decide +kernel
theorem dX12_evening_154 : decode cX12_evening 154 = .ok (.invokevirtual 312, 3) := by decide +kernel
theorem dX12_evening_157 : decode cX12_evening 157 = .ok (.istore 8, 2) := by decide +kernel
theorem dX12_evening_159 : decode cX12_evening 159 = .ok (.aload_n 0, 1) := by decide +kernel
theorem dX12_evening_160 : decode cX12_evening 160 = .ok (.iload 7, 2) := by decide +kernel
theorem dX12_evening_162 : decode cX12_evening 162 = .ok (.iload 8, 2) := by decide +kernel
theorem dX12_evening_164 : decode cX12_evening 164 = .ok (.invokevirtual 254, 3) := by decide +kernel
theorem dX12_evening_167 : decode cX12_evening 167 = .ok (.ifCond .le 13, 3) := by decide +kernel
theorem dX12_evening_170 : decode cX12_evening 170 = .ok (.aload_n 0, 1) := by decide +kernel
theorem dX12_evening_171 : decode cX12_evening 171 = .ok (.iload 6, 2) := by decide +kernel
theorem dX12_evening_173 : decode cX12_evening 173 = .ok (.iload 7, 2) := by decide +kernel
theorem dX12_evening_175 : decode cX12_evening 175 = .ok (.iload 8, 2) := by decide +kernel
theorem dX12_evening_177 : decode cX12_evening 177 = .ok (.invokevirtual 277, 3) := by decide +kernel
theorem dX12_evening_180 : decode cX12_evening 180 = .ok (.iinc 5 1, 3) := by decide +kernel
theorem dX12_evening_183 : decode cX12_evening 183 = .ok (.goto (-58), 3) := by decide +kernel
theorem dX12_evening_186 : decode cX12_evening 186 = .ok (.iconst 0, 1) := by decide +kernel
theorem dX12_evening_187 : decode cX12_evening 187 = .ok (.istore 5, 2) := by decide +kernel
theorem dX12_evening_189 : decode cX12_evening 189 = .ok (.iconst 0, 1) := by decide +kernel
theorem dX12_evening_190 : decode cX12_evening 190 = .ok (.istore 6, 2) := by decide +kernel
theorem dX12_evening_192 : decode cX12_evening 192 = .ok (.iload 6, 2) := by decide +kernel
theorem dX12_evening_194 : decode cX12_evening 194 = .ok (.aload_n 0, 1) := by decide +kernel
theorem dX12_evening_195 : decode cX12_evening 195 = .ok (.getfield 13, 3) := by decide +kernel
theorem dX12_evening_198 : decode cX12_evening 198 = .ok (.iconst 4, 1) := by decide +kernel
theorem dX12_evening_199 : decode cX12_evening 199 = .ok (.iaload, 1) := by decide +kernel
theorem dX12_evening_200 : decode cX12_evening 200 = .ok (.if_icmp .ge 69, 3) := by decide +kernel
theorem dX12_evening_203 : decode cX12_evening 203 = .ok (.aload_n 0, 1) := by decide +kernel
theorem dX12_evening_204 : decode cX12_evening 204 = .ok (.iload 6, 2) := by decide +kernel
theorem dX12_evening_206 : decode cX12_evening 206 = .ok (.iconst 0, 1) := by decide +kernel
theorem dX12_evening_207 : decode cX12_evening 207 = .ok (.invokevirtual 299, 3) := by decide +kernel
theorem dX12_evening_210 : decode cX12_evening 210 = .ok (.istore 7, 2) := by decide +kernel
theorem dX12_evening_212 : decode cX12_evening 212 = .ok (.aload_n 0, 1) := by decide +kernel
theorem dX12_evening_213 : decode cX12_evening 213 = .ok (.iload 6, 2) := by decide +kernel
theorem dX12_evening_215 : decode cX12_evening 215 = .ok (.iconst 1, 1) := by decide +kernel
theorem dX12_evening_216 : decode cX12_evening 216 = .ok (.invokevirtual 299, 3) := by decide +kernel
theorem dX12_evening_219 : decode cX12_evening 219 = .ok (.istore 8, 2) := by decide +kernel
theorem dX12_evening_221 : decode cX12_evening 221 = .ok (.iload 5, 2) := by decide +kernel
theorem dX12_evening_223 : decode cX12_evening 223 = .ok (.iload_n 3, 1) := by decide +kernel
theorem dX12_evening_224 : decode cX12_evening 224 = .ok (.ifCond .ne 8, 3) := by decide +kernel
theorem dX12_evening_227 : decode cX12_evening 227 = .ok (.iload 7, 2) := by decide +kernel
theorem dX12_evening_229 : decode cX12_evening 229 = .ok (.goto 31, 3) := by decide +kernel
theorem dX12_evening_232 : decode cX12_evening 232 = .ok (.iload_n 3, 1) := by decide +kernel
theorem dX12_evening_233 : decode cX12_evening 233 = .ok (.iconst 1, 1) := by decide +kernel
theorem dX12_evening_234 : decode cX12_evening 234 = .ok (.if_icmp .ne 8, 3) := by decide +kernel
theorem dX12_evening_237 : decode cX12_evening 237 = .ok (.iload 8, 2) := by decide +kernel
theorem dX12_evening_239 : decode cX12_evening 239 = .ok (.goto 21, 3) := by decide +kernel
theorem dX12_evening_242 : decode cX12_evening 242 = .ok (.iload_n 3, 1) := by decide +kernel
theorem dX12_evening_243 : decode cX12_evening 243 = .ok (.iconst 3, 1) := by decide +kernel
theorem dX12_evening_244 : decode cX12_evening 244 = .ok (.if_icmp .eq 11, 3) := by decide +kernel
theorem dX12_evening_247 : decode cX12_evening 247 = .ok (.iload 7, 2) := by decide +kernel
theorem dX12_evening_249 : decode cX12_evening 249 = .ok (.iload 8, 2) := by decide +kernel
theorem dX12_evening_251 : decode cX12_evening 251 = .ok (.iadd, 1) := by decide +kernel
theorem dX12_evening_252 : decode cX12_evening 252 = .ok (.ifCond .ne 7, 3) := by decide +kernel
theorem dX12_evening_255 : decode cX12_evening 255 = .ok (.iconst 1, 1) := by decide +kernel
theorem dX12_evening_256 : decode cX12_evening 256 = .ok (.goto 4, 3) := by decide +kernel
theorem dX12_evening_259 : decode cX12_evening 259 = .ok (.iconst 0, 1) := by decide +kernel
theorem dX12_evening_260 : decode cX12_evening 260 = .ok (.iadd, 1) := by decide +kernel
theorem dX12_evening_261 : decode cX12_evening 261 = .ok (.istore 5, 2) := by decide +kernel
theorem dX12_evening_263 : decode cX12_evening 263 = .ok (.iinc 6 1, 3) := by decide +kernel
theorem dX12_evening_266 : decode cX12_evening 266 = .ok (.goto (-74), 3) := by decide +kernel
theorem dX12_evening_269 : decode cX12_evening 269 = .ok (.iconst 0, 1) := by decide +kernel
theorem dX12_evening_270 : decode cX12_evening 270 = .ok (.istore 6, 2) := by decide +kernel
theorem dX12_evening_272 : decode cX12_evening 272 = .ok (.iload 6, 2) := by decide +kernel
theorem dX12_evening_274 : decode cX12_evening 274 = .ok (.bipush 48, 2) := by decide +kernel
theorem dX12_evening_276 : decode cX12_evening 276 = .ok (.if_icmp .ge 27, 3) := by decide +kernel
theorem dX12_evening_279 : decode cX12_evening 279 = .ok (.aload_n 0, 1) := by decide +kernel
theorem dX12_evening_280 : decode cX12_evening 280 = .ok (.getfield 13, 3) := by decide +kernel
theorem dX12_evening_283 : decode cX12_evening 283 = .ok (.sipush 138, 3) := by decide +kernel
theorem dX12_evening_286 : decode cX12_evening 286 = .ok (.iload 6, 2) := by decide +kernel
theorem dX12_evening_288 : decode cX12_evening 288 = .ok (.iadd, 1) := by decide +kernel
theorem dX12_evening_289 : decode cX12_evening 289 = .ok (.aload_n 0, 1) := by decide +kernel
theorem dX12_evening_290 : decode cX12_evening 290 = .ok (.getfield 33, 3) := by decide +kernel
theorem dX12_evening_293 : decode cX12_evening 293 = .ok (.iload 6, 2) := by decide +kernel
theorem dX12_evening_295 : decode cX12_evening 295 = .ok (.iaload, 1) := by decide +kernel
theorem dX12_evening_296 : decode cX12_evening 296 = .ok (.iastore, 1) := by decide +kernel
theorem dX12_evening_297 : decode cX12_evening 297 = .ok (.iinc 6 1, 3) := by decide +kernel
theorem dX12_evening_300 : decode cX12_evening 300 = .ok (.goto (-28), 3) := by decide +kernel
theorem dX12_evening_303 : decode cX12_evening 303 = .ok (.aload_n 0, 1) := by decide +kernel
theorem dX12_evening_304 : decode cX12_evening 304 = .ok (.getfield 13, 3) := by decide +kernel
theorem dX12_evening_307 : decode cX12_evening 307 = .ok (.iconst 4, 1) := by decide +kernel
theorem dX12_evening_308 : decode cX12_evening 308 = .ok (.iload 4, 2) := by decide +kernel
theorem dX12_evening_310 : decode cX12_evening 310 = .ok (.iastore, 1) := by decide +kernel
theorem dX12_evening_311 : decode cX12_evening 311 = .ok (.iload 5, 2) := by decide +kernel
theorem dX12_evening_313 : decode cX12_evening 313 = .ok (.ireturn, 1) := by decide +kernel
theorem dX12_draw_0 : decode cX12_draw 0 = .ok (.aload_n 0, 1) := by decide +kernel
theorem dX12_draw_1 : decode cX12_draw 1 = .ok (.ldc_w 315, 3) := by decide +kernel
theorem dX12_draw_4 : decode cX12_draw 4 = .ok (.aload_n 0, 1) := by decide +kernel
theorem dX12_draw_5 : decode cX12_draw 5 = .ok (.getfield 309, 3) := by decide +kernel
theorem dX12_draw_8 : decode cX12_draw 8 = .ok (.imul, 1) := by decide +kernel
theorem dX12_draw_9 : decode cX12_draw 9 = .ok (.sipush 12345, 3) := by decide +kernel
theorem dX12_draw_12 : decode cX12_draw 12 = .ok (.iadd, 1) := by decide +kernel
theorem dX12_draw_13 : decode cX12_draw 13 = .ok (.putfield 309, 3) := by decide +kernel
theorem dX12_draw_16 : decode cX12_draw 16 = .ok (.aload_n 0, 1) := by decide +kernel
theorem dX12_draw_17 : decode cX12_draw 17 = .ok (.getfield 309, 3) := by decide +kernel
theorem dX12_draw_20 : decode cX12_draw 20 = .ok (.bipush 16, 2) := by decide +kernel
theorem dX12_draw_22 : decode cX12_draw 22 = .ok (.ishr, 1) := by decide +kernel
theorem dX12_draw_23 : decode cX12_draw 23 = .ok (.sipush 32767, 3) := by decide +kernel
theorem dX12_draw_26 : decode cX12_draw 26 = .ok (.iand, 1) := by decide +kernel
theorem dX12_draw_27 : decode cX12_draw 27 = .ok (.iload_n 1, 1) := by decide +kernel
theorem dX12_draw_28 : decode cX12_draw 28 = .ok (.irem, 1) := by decide +kernel
theorem dX12_draw_29 : decode cX12_draw 29 = .ok (.ireturn, 1) := by decide +kernel
theorem dX12_beginsOf_0 : decode cX12_beginsOf 0 = .ok (.iconst 0, 1) := by decide +kernel
theorem dX12_beginsOf_1 : decode cX12_beginsOf 1 = .ok (.istore_n 2, 1) := by decide +kernel
theorem dX12_beginsOf_2 : decode cX12_beginsOf 2 = .ok (.iconst 0, 1) := by decide +kernel
theorem dX12_beginsOf_3 : decode cX12_beginsOf 3 = .ok (.istore_n 3, 1) := by decide +kernel
theorem dX12_beginsOf_4 : decode cX12_beginsOf 4 = .ok (.iload_n 3, 1) := by decide +kernel
theorem dX12_beginsOf_5 : decode cX12_beginsOf 5 = .ok (.aload_n 0, 1) := by decide +kernel
theorem dX12_beginsOf_6 : decode cX12_beginsOf 6 = .ok (.invokevirtual 82, 3) := by decide +kernel
theorem dX12_beginsOf_9 : decode cX12_beginsOf 9 = .ok (.if_icmp .ge 79, 3) := by decide +kernel
theorem dX12_beginsOf_12 : decode cX12_beginsOf 12 = .ok (.iconst 0, 1) := by decide +kernel
theorem dX12_beginsOf_13 : decode cX12_beginsOf 13 = .ok (.istore 4, 2) := by decide +kernel
theorem dX12_beginsOf_15 : decode cX12_beginsOf 15 = .ok (.iload 4, 2) := by decide +kernel
theorem dX12_beginsOf_17 : decode cX12_beginsOf 17 = .ok (.iload_n 3, 1) := by decide +kernel
theorem dX12_beginsOf_18 : decode cX12_beginsOf 18 = .ok (.if_icmp .ge 64, 3) := by decide +kernel
theorem dX12_beginsOf_21 : decode cX12_beginsOf 21 = .ok (.aload_n 0, 1) := by decide +kernel
theorem dX12_beginsOf_22 : decode cX12_beginsOf 22 = .ok (.iload_n 1, 1) := by decide +kernel
theorem dX12_beginsOf_23 : decode cX12_beginsOf 23 = .ok (.iload_n 3, 1) := by decide +kernel
theorem dX12_beginsOf_24 : decode cX12_beginsOf 24 = .ok (.invokevirtual 254, 3) := by decide +kernel
theorem dX12_beginsOf_27 : decode cX12_beginsOf 27 = .ok (.istore 5, 2) := by decide +kernel
theorem dX12_beginsOf_29 : decode cX12_beginsOf 29 = .ok (.aload_n 0, 1) := by decide +kernel
theorem dX12_beginsOf_30 : decode cX12_beginsOf 30 = .ok (.iload_n 1, 1) := by decide +kernel
theorem dX12_beginsOf_31 : decode cX12_beginsOf 31 = .ok (.iload 4, 2) := by decide +kernel
theorem dX12_beginsOf_33 : decode cX12_beginsOf 33 = .ok (.invokevirtual 254, 3) := by decide +kernel
theorem dX12_beginsOf_36 : decode cX12_beginsOf 36 = .ok (.istore 6, 2) := by decide +kernel
theorem dX12_beginsOf_38 : decode cX12_beginsOf 38 = .ok (.iload_n 2, 1) := by decide +kernel
theorem dX12_beginsOf_39 : decode cX12_beginsOf 39 = .ok (.iload 5, 2) := by decide +kernel
theorem dX12_beginsOf_41 : decode cX12_beginsOf 41 = .ok (.ifCond .le 32, 3) := by decide +kernel
theorem dX12_beginsOf_44 : decode cX12_beginsOf 44 = .ok (.iload 6, 2) := by decide +kernel
theorem dX12_beginsOf_46 : decode cX12_beginsOf 46 = .ok (.ifCond .le 27, 3) := by decide +kernel
theorem dX12_beginsOf_49 : decode cX12_beginsOf 49 = .ok (.iload 5, 2) := by decide +kernel
theorem dX12_beginsOf_51 : decode cX12_beginsOf 51 = .ok (.iload 6, 2) := by decide +kernel
theorem dX12_beginsOf_53 : decode cX12_beginsOf 53 = .ok (.invokestatic 303, 3) := by decide +kernel
theorem dX12_beginsOf_56 : decode cX12_beginsOf 56 = .ok (.ifCond .ne 13, 3) := by decide +kernel
theorem dX12_beginsOf_59 : decode cX12_beginsOf 59 = .ok (.iload 6, 2) := by decide +kernel
theorem dX12_beginsOf_61 : decode cX12_beginsOf 61 = .ok (.iload 5, 2) := by decide +kernel
theorem dX12_beginsOf_63 : decode cX12_beginsOf 63 = .ok (.invokestatic 303, 3) := by decide +kernel
theorem dX12_beginsOf_66 : decode cX12_beginsOf 66 = .ok (.ifCond .eq 7, 3) := by decide +kernel
theorem dX12_beginsOf_69 : decode cX12_beginsOf 69 = .ok (.iconst 1, 1) := by decide +kernel
theorem dX12_beginsOf_70 : decode cX12_beginsOf 70 = .ok (.goto 4, 3) := by decide +kernel
theorem dX12_beginsOf_73 : decode cX12_beginsOf 73 = .ok (.iconst 0, 1) := by decide +kernel
theorem dX12_beginsOf_74 : decode cX12_beginsOf 74 = .ok (.iadd, 1) := by decide +kernel
theorem dX12_beginsOf_75 : decode cX12_beginsOf 75 = .ok (.istore_n 2, 1) := by decide +kernel
theorem dX12_beginsOf_76 : decode cX12_beginsOf 76 = .ok (.iinc 4 1, 3) := by decide +kernel
theorem dX12_beginsOf_79 : decode cX12_beginsOf 79 = .ok (.goto (-64), 3) := by decide +kernel
theorem dX12_beginsOf_82 : decode cX12_beginsOf 82 = .ok (.iinc 3 1, 3) := by decide +kernel
theorem dX12_beginsOf_85 : decode cX12_beginsOf 85 = .ok (.goto (-81), 3) := by decide +kernel
theorem dX12_beginsOf_88 : decode cX12_beginsOf 88 = .ok (.iload_n 2, 1) := by decide +kernel
theorem dX12_beginsOf_89 : decode cX12_beginsOf 89 = .ok (.ireturn, 1) := by decide +kernel
theorem dX12_begins_0 : decode cX12_begins 0 = .ok (.aload_n 0, 1) := by decide +kernel
theorem dX12_begins_1 : decode cX12_begins 1 = .ok (.iconst 0, 1) := by decide +kernel
theorem dX12_begins_2 : decode cX12_begins 2 = .ok (.putfield 3, 3) := by decide +kernel
theorem dX12_begins_5 : decode cX12_begins 5 = .ok (.aload_n 0, 1) := by decide +kernel
theorem dX12_begins_6 : decode cX12_begins 6 = .ok (.aload_n 0, 1) := by decide +kernel
theorem dX12_begins_7 : decode cX12_begins 7 = .ok (.iload_n 1, 1) := by decide +kernel
theorem dX12_begins_8 : decode cX12_begins 8 = .ok (.invokevirtual 257, 3) := by decide +kernel
theorem dX12_begins_11 : decode cX12_begins 11 = .ok (.iconst 1, 1) := by decide +kernel
theorem dX12_begins_12 : decode cX12_begins 12 = .ok (.invokevirtual 242, 3) := by decide +kernel
theorem dX12_begins_15 : decode cX12_begins 15 = .ok (.ifCond .eq 7, 3) := by decide +kernel
theorem dX12_begins_18 : decode cX12_begins 18 = .ok (.iconst 0, 1) := by decide +kernel
theorem dX12_begins_19 : decode cX12_begins 19 = .ok (.goto 8, 3) := by decide +kernel
theorem dX12_begins_22 : decode cX12_begins 22 = .ok (.aload_n 0, 1) := by decide +kernel
theorem dX12_begins_23 : decode cX12_begins 23 = .ok (.iload_n 1, 1) := by decide +kernel
theorem dX12_begins_24 : decode cX12_begins 24 = .ok (.invokevirtual 316, 3) := by decide +kernel
theorem dX12_begins_27 : decode cX12_begins 27 = .ok (.ireturn, 1) := by decide +kernel
theorem dX12_safe_0 : decode cX12_safe 0 = .ok (.aload_n 0, 1) := by decide +kernel
theorem dX12_safe_1 : decode cX12_safe 1 = .ok (.iconst 0, 1) := by decide +kernel
theorem dX12_safe_2 : decode cX12_safe 2 = .ok (.putfield 3, 3) := by decide +kernel
theorem dX12_safe_5 : decode cX12_safe 5 = .ok (.aload_n 0, 1) := by decide +kernel
theorem dX12_safe_6 : decode cX12_safe 6 = .ok (.aload_n 0, 1) := by decide +kernel
theorem dX12_safe_7 : decode cX12_safe 7 = .ok (.iload_n 1, 1) := by decide +kernel
theorem dX12_safe_8 : decode cX12_safe 8 = .ok (.invokevirtual 257, 3) := by decide +kernel
theorem dX12_safe_11 : decode cX12_safe 11 = .ok (.iconst 1, 1) := by decide +kernel
theorem dX12_safe_12 : decode cX12_safe 12 = .ok (.invokevirtual 242, 3) := by decide +kernel
theorem dX12_safe_15 : decode cX12_safe 15 = .ok (.ifCond .ne 26, 3) := by decide +kernel
theorem dX12_safe_18 : decode cX12_safe 18 = .ok (.aload_n 0, 1) := by decide +kernel
theorem dX12_safe_19 : decode cX12_safe 19 = .ok (.iload_n 2, 1) := by decide +kernel
theorem dX12_safe_20 : decode cX12_safe 20 = .ok (.iconst 0, 1) := by decide +kernel
theorem dX12_safe_21 : decode cX12_safe 21 = .ok (.bipush 8, 2) := by decide +kernel
theorem dX12_safe_23 : decode cX12_safe 23 = .ok (.invokestatic 78, 3) := by decide +kernel
theorem dX12_safe_26 : decode cX12_safe 26 = .ok (.ifCond .ne 7, 3) := by decide +kernel
theorem dX12_safe_29 : decode cX12_safe 29 = .ok (.iconst 1, 1) := by decide +kernel
theorem dX12_safe_30 : decode cX12_safe 30 = .ok (.goto 4, 3) := by decide +kernel
theorem dX12_safe_33 : decode cX12_safe 33 = .ok (.iconst 0, 1) := by decide +kernel
theorem dX12_safe_34 : decode cX12_safe 34 = .ok (.iconst 2, 1) := by decide +kernel
theorem dX12_safe_35 : decode cX12_safe 35 = .ok (.invokevirtual 242, 3) := by decide +kernel
theorem dX12_safe_38 : decode cX12_safe 38 = .ok (.ifCond .eq 5, 3) := by decide +kernel
theorem dX12_safe_41 : decode cX12_safe 41 = .ok (.iconst 0, 1) := by decide +kernel
theorem dX12_safe_42 : decode cX12_safe 42 = .ok (.ireturn, 1) := by decide +kernel
theorem dX12_safe_43 : decode cX12_safe 43 = .ok (.iconst 1, 1) := by decide +kernel
theorem dX12_safe_44 : decode cX12_safe 44 = .ok (.istore_n 3, 1) := by decide +kernel
theorem dX12_safe_45 : decode cX12_safe 45 = .ok (.iconst 0, 1) := by decide +kernel
theorem dX12_safe_46 : decode cX12_safe 46 = .ok (.istore 4, 2) := by decide +kernel
theorem dX12_safe_48 : decode cX12_safe 48 = .ok (.iload 4, 2) := by decide +kernel
theorem dX12_safe_50 : decode cX12_safe 50 = .ok (.aload_n 0, 1) := by decide +kernel
theorem dX12_safe_51 : decode cX12_safe 51 = .ok (.invokevirtual 82, 3) := by decide +kernel
theorem dX12_safe_54 : decode cX12_safe 54 = .ok (.if_icmp .ge 80, 3) := by decide +kernel
theorem dX12_safe_57 : decode cX12_safe 57 = .ok (.iconst 0, 1) := by decide +kernel
theorem dX12_safe_58 : decode cX12_safe 58 = .ok (.istore 5, 2) := by decide +kernel
theorem dX12_safe_60 : decode cX12_safe 60 = .ok (.iload 5, 2) := by decide +kernel
theorem dX12_safe_62 : decode cX12_safe 62 = .ok (.iload 4, 2) := by decide +kernel
theorem dX12_safe_64 : decode cX12_safe 64 = .ok (.if_icmp .ge 64, 3) := by decide +kernel
theorem dX12_safe_67 : decode cX12_safe 67 = .ok (.iload_n 3, 1) := by decide +kernel
theorem dX12_safe_68 : decode cX12_safe 68 = .ok (.ifCond .eq 52, 3) := by decide +kernel
theorem dX12_safe_71 : decode cX12_safe 71 = .ok (.aload_n 0, 1) := by decide +kernel
theorem dX12_safe_72 : decode cX12_safe 72 = .ok (.iload_n 1, 1) := by decide +kernel
theorem dX12_safe_73 : decode cX12_safe 73 = .ok (.iload 4, 2) := by decide +kernel
theorem dX12_safe_75 : decode cX12_safe 75 = .ok (.invokevirtual 254, 3) := by decide +kernel
theorem dX12_safe_78 : decode cX12_safe 78 = .ok (.ifCond .eq 38, 3) := by decide +kernel
theorem dX12_safe_81 : decode cX12_safe 81 = .ok (.aload_n 0, 1) := by decide +kernel
theorem dX12_safe_82 : decode cX12_safe 82 = .ok (.iload_n 1, 1) := by decide +kernel
theorem dX12_safe_83 : decode cX12_safe 83 = .ok (.iload 5, 2) := by decide +kernel
theorem dX12_safe_85 : decode cX12_safe 85 = .ok (.invokevirtual 254, 3) := by decide +kernel
theorem dX12_safe_88 : decode cX12_safe 88 = .ok (.ifCond .eq 28, 3) := by decide +kernel
theorem dX12_safe_91 : decode cX12_safe 91 = .ok (.aload_n 0, 1) := by decide +kernel
theorem dX12_safe_92 : decode cX12_safe 92 = .ok (.iload_n 1, 1) := by decide +kernel
theorem dX12_safe_93 : decode cX12_safe 93 = .ok (.iload 4, 2) := by decide +kernel
theorem dX12_safe_95 : decode cX12_safe 95 = .ok (.invokevirtual 254, 3) := by decide +kernel
theorem dX12_safe_98 : decode cX12_safe 98 = .ok (.iload_n 2, 1) := by decide +kernel
theorem dX12_safe_99 : decode cX12_safe 99 = .ok (.invokestatic 99, 3) := by decide +kernel
theorem dX12_safe_102 : decode cX12_safe 102 = .ok (.aload_n 0, 1) := by decide +kernel
theorem dX12_safe_103 : decode cX12_safe 103 = .ok (.iload_n 1, 1) := by decide +kernel
theorem dX12_safe_104 : decode cX12_safe 104 = .ok (.iload 5, 2) := by decide +kernel
theorem dX12_safe_106 : decode cX12_safe 106 = .ok (.invokevirtual 254, 3) := by decide +kernel
theorem dX12_safe_109 : decode cX12_safe 109 = .ok (.iload_n 2, 1) := by decide +kernel
theorem dX12_safe_110 : decode cX12_safe 110 = .ok (.invokestatic 99, 3) := by decide +kernel
theorem dX12_safe_113 : decode cX12_safe 113 = .ok (.if_icmp .eq 7, 3) := by decide +kernel
theorem dX12_safe_116 : decode cX12_safe 116 = .ok (.iconst 1, 1) := by decide +kernel
theorem dX12_safe_117 : decode cX12_safe 117 = .ok (.goto 4, 3) := by decide +kernel
theorem dX12_safe_120 : decode cX12_safe 120 = .ok (.iconst 0, 1) := by decide +kernel
theorem dX12_safe_121 : decode cX12_safe 121 = .ok (.istore_n 3, 1) := by decide +kernel
theorem dX12_safe_122 : decode cX12_safe 122 = .ok (.iinc 5 1, 3) := by decide +kernel
theorem dX12_safe_125 : decode cX12_safe 125 = .ok (.goto (-65), 3) := by decide +kernel
theorem dX12_safe_128 : decode cX12_safe 128 = .ok (.iinc 4 1, 3) := by decide +kernel
theorem dX12_safe_131 : decode cX12_safe 131 = .ok (.goto (-83), 3) := by decide +kernel
theorem dX12_safe_134 : decode cX12_safe 134 = .ok (.iload_n 3, 1) := by decide +kernel
theorem dX12_safe_135 : decode cX12_safe 135 = .ok (.ireturn, 1) := by decide +kernel
theorem dX12_buy_0 : decode cX12_buy 0 = .ok (.aload_n 0, 1) := by decide +kernel
theorem dX12_buy_1 : decode cX12_buy 1 = .ok (.iconst 0, 1) := by decide +kernel
theorem dX12_buy_2 : decode cX12_buy 2 = .ok (.putfield 3, 3) := by decide +kernel
theorem dX12_buy_5 : decode cX12_buy 5 = .ok (.aload_n 0, 1) := by decide +kernel
theorem dX12_buy_6 : decode cX12_buy 6 = .ok (.aload_n 0, 1) := by decide +kernel
theorem dX12_buy_7 : decode cX12_buy 7 = .ok (.iload_n 1, 1) := by decide +kernel
theorem dX12_buy_8 : decode cX12_buy 8 = .ok (.invokevirtual 257, 3) := by decide +kernel
theorem dX12_buy_11 : decode cX12_buy 11 = .ok (.ifCond .ne 11, 3) := by decide +kernel
theorem dX12_buy_14 : decode cX12_buy 14 = .ok (.aload_n 0, 1) := by decide +kernel
theorem dX12_buy_15 : decode cX12_buy 15 = .ok (.iload_n 2, 1) := by decide +kernel
theorem dX12_buy_16 : decode cX12_buy 16 = .ok (.invokevirtual 263, 3) := by decide +kernel
theorem dX12_buy_19 : decode cX12_buy 19 = .ok (.ifCond .eq 7, 3) := by decide +kernel
theorem dX12_buy_22 : decode cX12_buy 22 = .ok (.iconst 1, 1) := by decide +kernel
theorem dX12_buy_23 : decode cX12_buy 23 = .ok (.goto 4, 3) := by decide +kernel
theorem dX12_buy_26 : decode cX12_buy 26 = .ok (.iconst 0, 1) := by decide +kernel
theorem dX12_buy_27 : decode cX12_buy 27 = .ok (.iconst 1, 1) := by decide +kernel
theorem dX12_buy_28 : decode cX12_buy 28 = .ok (.invokevirtual 242, 3) := by decide +kernel
theorem dX12_buy_31 : decode cX12_buy 31 = .ok (.ifCond .ne 27, 3) := by decide +kernel
theorem dX12_buy_34 : decode cX12_buy 34 = .ok (.aload_n 0, 1) := by decide +kernel
theorem dX12_buy_35 : decode cX12_buy 35 = .ok (.iload_n 3, 1) := by decide +kernel
theorem dX12_buy_36 : decode cX12_buy 36 = .ok (.iconst 2, 1) := by decide +kernel
theorem dX12_buy_37 : decode cX12_buy 37 = .ok (.sipush 511, 3) := by decide +kernel
theorem dX12_buy_40 : decode cX12_buy 40 = .ok (.invokestatic 78, 3) := by decide +kernel
theorem dX12_buy_43 : decode cX12_buy 43 = .ok (.ifCond .ne 7, 3) := by decide +kernel
theorem dX12_buy_46 : decode cX12_buy 46 = .ok (.iconst 1, 1) := by decide +kernel
theorem dX12_buy_47 : decode cX12_buy 47 = .ok (.goto 4, 3) := by decide +kernel
theorem dX12_buy_50 : decode cX12_buy 50 = .ok (.iconst 0, 1) := by decide +kernel
theorem dX12_buy_51 : decode cX12_buy 51 = .ok (.iconst 2, 1) := by decide +kernel
theorem dX12_buy_52 : decode cX12_buy 52 = .ok (.invokevirtual 242, 3) := by decide +kernel
theorem dX12_buy_55 : decode cX12_buy 55 = .ok (.ifCond .eq 5, 3) := by decide +kernel
theorem dX12_buy_58 : decode cX12_buy 58 = .ok (.iconst 0, 1) := by decide +kernel
theorem dX12_buy_59 : decode cX12_buy 59 = .ok (.ireturn, 1) := by decide +kernel
theorem dX12_buy_60 : decode cX12_buy 60 = .ok (.bipush 40, 2) := by decide +kernel
theorem dX12_buy_62 : decode cX12_buy 62 = .ok (.iload_n 3, 1) := by decide +kernel
theorem dX12_buy_63 : decode cX12_buy 63 = .ok (.invokestatic 268, 3) := by decide +kernel
theorem dX12_buy_66 : decode cX12_buy 66 = .ok (.idiv, 1) := by decide +kernel
theorem dX12_buy_67 : decode cX12_buy 67 = .ok (.iconst 1, 1) := by decide +kernel
theorem dX12_buy_68 : decode cX12_buy 68 = .ok (.iadd, 1) := by decide +kernel
theorem dX12_buy_69 : decode cX12_buy 69 = .ok (.istore 4, 2) := by decide +kernel
theorem dX12_buy_71 : decode cX12_buy 71 = .ok (.aload_n 0, 1) := by decide +kernel
theorem dX12_buy_72 : decode cX12_buy 72 = .ok (.iload_n 1, 1) := by decide +kernel
theorem dX12_buy_73 : decode cX12_buy 73 = .ok (.iconst 3, 1) := by decide +kernel
theorem dX12_buy_74 : decode cX12_buy 74 = .ok (.invokevirtual 70, 3) := by decide +kernel
theorem dX12_buy_77 : decode cX12_buy 77 = .ok (.iload 4, 2) := by decide +kernel
theorem dX12_buy_79 : decode cX12_buy 79 = .ok (.if_icmp .ge 5, 3) := by decide +kernel
theorem dX12_buy_82 : decode cX12_buy 82 = .ok (.iconst (-1), 1) := by decide +kernel
theorem dX12_buy_83 : decode cX12_buy 83 = .ok (.ireturn, 1) := by decide +kernel
theorem dX12_buy_84 : decode cX12_buy 84 = .ok (.aload_n 0, 1) := by decide +kernel
theorem dX12_buy_85 : decode cX12_buy 85 = .ok (.iload_n 1, 1) := by decide +kernel
theorem dX12_buy_86 : decode cX12_buy 86 = .ok (.iconst 3, 1) := by decide +kernel
theorem dX12_buy_87 : decode cX12_buy 87 = .ok (.aload_n 0, 1) := by decide +kernel
theorem dX12_buy_88 : decode cX12_buy 88 = .ok (.iload_n 1, 1) := by decide +kernel
theorem dX12_buy_89 : decode cX12_buy 89 = .ok (.iconst 3, 1) := by decide +kernel
theorem dX12_buy_90 : decode cX12_buy 90 = .ok (.invokevirtual 70, 3) := by decide +kernel
theorem dX12_buy_93 : decode cX12_buy 93 = .ok (.iload 4, 2) := by decide +kernel
theorem dX12_buy_95 : decode cX12_buy 95 = .ok (.isub, 1) := by decide +kernel
theorem dX12_buy_96 : decode cX12_buy 96 = .ok (.invokevirtual 137, 3) := by decide +kernel
theorem dX12_buy_99 : decode cX12_buy 99 = .ok (.aload_n 0, 1) := by decide +kernel
theorem dX12_buy_100 : decode cX12_buy 100 = .ok (.getfield 13, 3) := by decide +kernel
theorem dX12_buy_103 : decode cX12_buy 103 = .ok (.iconst 5, 1) := by decide +kernel
theorem dX12_buy_104 : decode cX12_buy 104 = .ok (.dup2, 1) := by decide +kernel
theorem dX12_buy_105 : decode cX12_buy 105 = .ok (.iaload, 1) := by decide +kernel
theorem dX12_buy_106 : decode cX12_buy 106 = .ok (.iload 4, 2) := by decide +kernel
theorem dX12_buy_108 : decode cX12_buy 108 = .ok (.iadd, 1) := by decide +kernel
theorem dX12_buy_109 : decode cX12_buy 109 = .ok (.iastore, 1) := by decide +kernel
theorem dX12_buy_110 : decode cX12_buy 110 = .ok (.aload_n 0, 1) := by decide +kernel
theorem dX12_buy_111 : decode cX12_buy 111 = .ok (.iload_n 1, 1) := by decide +kernel
theorem dX12_buy_112 : decode cX12_buy 112 = .ok (.iconst 5, 1) := by decide +kernel
theorem dX12_buy_113 : decode cX12_buy 113 = .ok (.iload_n 2, 1) := by decide +kernel
theorem dX12_buy_114 : decode cX12_buy 114 = .ok (.iadd, 1) := by decide +kernel
theorem dX12_buy_115 : decode cX12_buy 115 = .ok (.iload_n 3, 1) := by decide +kernel
theorem dX12_buy_116 : decode cX12_buy 116 = .ok (.invokevirtual 137, 3) := by decide +kernel
theorem dX12_buy_119 : decode cX12_buy 119 = .ok (.iload 4, 2) := by decide +kernel
theorem dX12_buy_121 : decode cX12_buy 121 = .ok (.ireturn, 1) := by decide +kernel
theorem dX12_trade_0 : decode cX12_trade 0 = .ok (.aload_n 0, 1) := by decide +kernel
theorem dX12_trade_1 : decode cX12_trade 1 = .ok (.iconst 0, 1) := by decide +kernel
theorem dX12_trade_2 : decode cX12_trade 2 = .ok (.putfield 3, 3) := by decide +kernel
theorem dX12_trade_5 : decode cX12_trade 5 = .ok (.aload_n 0, 1) := by decide +kernel
theorem dX12_trade_6 : decode cX12_trade 6 = .ok (.aload_n 0, 1) := by decide +kernel
theorem dX12_trade_7 : decode cX12_trade 7 = .ok (.iload_n 1, 1) := by decide +kernel
theorem dX12_trade_8 : decode cX12_trade 8 = .ok (.invokevirtual 257, 3) := by decide +kernel
theorem dX12_trade_11 : decode cX12_trade 11 = .ok (.ifCond .ne 19, 3) := by decide +kernel
theorem dX12_trade_14 : decode cX12_trade 14 = .ok (.aload_n 0, 1) := by decide +kernel
theorem dX12_trade_15 : decode cX12_trade 15 = .ok (.iload_n 2, 1) := by decide +kernel
theorem dX12_trade_16 : decode cX12_trade 16 = .ok (.invokevirtual 257, 3) := by decide +kernel
theorem dX12_trade_19 : decode cX12_trade 19 = .ok (.ifCond .ne 11, 3) := by decide +kernel
theorem dX12_trade_22 : decode cX12_trade 22 = .ok (.aload_n 0, 1) := by decide +kernel
theorem dX12_trade_23 : decode cX12_trade 23 = .ok (.iload_n 3, 1) := by decide +kernel
theorem dX12_trade_24 : decode cX12_trade 24 = .ok (.invokevirtual 263, 3) := by decide +kernel
theorem dX12_trade_27 : decode cX12_trade 27 = .ok (.ifCond .eq 7, 3) := by decide +kernel
theorem dX12_trade_30 : decode cX12_trade 30 = .ok (.iconst 1, 1) := by decide +kernel
theorem dX12_trade_31 : decode cX12_trade 31 = .ok (.goto 4, 3) := by decide +kernel
theorem dX12_trade_34 : decode cX12_trade 34 = .ok (.iconst 0, 1) := by decide +kernel
theorem dX12_trade_35 : decode cX12_trade 35 = .ok (.iconst 1, 1) := by decide +kernel
theorem dX12_trade_36 : decode cX12_trade 36 = .ok (.invokevirtual 242, 3) := by decide +kernel
theorem dX12_trade_39 : decode cX12_trade 39 = .ok (.ifCond .ne 21, 3) := by decide +kernel
theorem dX12_trade_42 : decode cX12_trade 42 = .ok (.aload_n 0, 1) := by decide +kernel
theorem dX12_trade_43 : decode cX12_trade 43 = .ok (.iload_n 1, 1) := by decide +kernel
theorem dX12_trade_44 : decode cX12_trade 44 = .ok (.iload_n 2, 1) := by decide +kernel
theorem dX12_trade_45 : decode cX12_trade 45 = .ok (.if_icmp .ne 7, 3) := by decide +kernel
theorem dX12_trade_48 : decode cX12_trade 48 = .ok (.iconst 1, 1) := by decide +kernel
theorem dX12_trade_49 : decode cX12_trade 49 = .ok (.goto 4, 3) := by decide +kernel
theorem dX12_trade_52 : decode cX12_trade 52 = .ok (.iconst 0, 1) := by decide +kernel
theorem dX12_trade_53 : decode cX12_trade 53 = .ok (.iconst 2, 1) := by decide +kernel
theorem dX12_trade_54 : decode cX12_trade 54 = .ok (.invokevirtual 242, 3) := by decide +kernel
theorem dX12_trade_57 : decode cX12_trade 57 = .ok (.ifCond .eq 4, 3) := by decide +kernel
theorem dX12_trade_60 : decode cX12_trade 60 = .ok (.return_, 1) := by decide +kernel
theorem dX12_trade_61 : decode cX12_trade 61 = .ok (.aload_n 0, 1) := by decide +kernel
theorem dX12_trade_62 : decode cX12_trade 62 = .ok (.iload_n 1, 1) := by decide +kernel
theorem dX12_trade_63 : decode cX12_trade 63 = .ok (.iload_n 3, 1) := by decide +kernel
theorem dX12_trade_64 : decode cX12_trade 64 = .ok (.invokevirtual 254, 3) := by decide +kernel
theorem dX12_trade_67 : decode cX12_trade 67 = .ok (.istore 4, 2) := by decide +kernel
theorem dX12_trade_69 : decode cX12_trade 69 = .ok (.aload_n 0, 1) := by decide +kernel
theorem dX12_trade_70 : decode cX12_trade 70 = .ok (.iload_n 1, 1) := by decide +kernel
theorem dX12_trade_71 : decode cX12_trade 71 = .ok (.iconst 5, 1) := by decide +kernel
theorem dX12_trade_72 : decode cX12_trade 72 = .ok (.iload_n 3, 1) := by decide +kernel
theorem dX12_trade_73 : decode cX12_trade 73 = .ok (.iadd, 1) := by decide +kernel
theorem dX12_trade_74 : decode cX12_trade 74 = .ok (.aload_n 0, 1) := by decide +kernel
theorem dX12_trade_75 : decode cX12_trade 75 = .ok (.iload_n 2, 1) := by decide +kernel
theorem dX12_trade_76 : decode cX12_trade 76 = .ok (.iload_n 3, 1) := by decide +kernel
theorem dX12_trade_77 : decode cX12_trade 77 = .ok (.invokevirtual 254, 3) := by decide +kernel
theorem dX12_trade_80 : decode cX12_trade 80 = .ok (.invokevirtual 137, 3) := by decide +kernel
theorem dX12_trade_83 : decode cX12_trade 83 = .ok (.aload_n 0, 1) := by decide +kernel
theorem dX12_trade_84 : decode cX12_trade 84 = .ok (.iload_n 2, 1) := by decide +kernel
theorem dX12_trade_85 : decode cX12_trade 85 = .ok (.iconst 5, 1) := by decide +kernel
theorem dX12_trade_86 : decode cX12_trade 86 = .ok (.iload_n 3, 1) := by decide +kernel
theorem dX12_trade_87 : decode cX12_trade 87 = .ok (.iadd, 1) := by decide +kernel
theorem dX12_trade_88 : decode cX12_trade 88 = .ok (.iload 4, 2) := by decide +kernel
theorem dX12_trade_90 : decode cX12_trade 90 = .ok (.invokevirtual 137, 3) := by decide +kernel
theorem dX12_trade_93 : decode cX12_trade 93 = .ok (.return_, 1) := by decide +kernel
theorem dX12_least_0 : decode cX12_least 0 = .ok (.aload_n 0, 1) := by decide +kernel
theorem dX12_least_1 : decode cX12_least 1 = .ok (.iconst 0, 1) := by decide +kernel
theorem dX12_least_2 : decode cX12_least 2 = .ok (.putfield 3, 3) := by decide +kernel
theorem dX12_least_5 : decode cX12_least 5 = .ok (.iload_n 1, 1) := by decide +kernel
theorem dX12_least_6 : decode cX12_least 6 = .ok (.iconst 1, 1) := by decide +kernel
theorem dX12_least_7 : decode cX12_least 7 = .ok (.aload_n 0, 1) := by decide +kernel
theorem dX12_least_8 : decode cX12_least 8 = .ok (.invokevirtual 82, 3) := by decide +kernel
theorem dX12_least_11 : decode cX12_least 11 = .ok (.ishl, 1) := by decide +kernel
theorem dX12_least_12 : decode cX12_least 12 = .ok (.iconst 1, 1) := by decide +kernel
theorem dX12_least_13 : decode cX12_least 13 = .ok (.isub, 1) := by decide +kernel
theorem dX12_least_14 : decode cX12_least 14 = .ok (.iand, 1) := by decide +kernel
theorem dX12_least_15 : decode cX12_least 15 = .ok (.istore_n 2, 1) := by decide +kernel
theorem dX12_least_16 : decode cX12_least 16 = .ok (.iload_n 2, 1) := by decide +kernel
theorem dX12_least_17 : decode cX12_least 17 = .ok (.invokestatic 89, 3) := by decide +kernel
theorem dX12_least_20 : decode cX12_least 20 = .ok (.bipush 6, 2) := by decide +kernel
theorem dX12_least_22 : decode cX12_least 22 = .ok (.if_icmp .le 6, 3) := by decide +kernel
theorem dX12_least_25 : decode cX12_least 25 = .ok (.bipush (-3), 2) := by decide +kernel
theorem dX12_least_27 : decode cX12_least 27 = .ok (.ireturn, 1) := by decide +kernel
theorem dX12_least_28 : decode cX12_least 28 = .ok (.iconst 0, 1) := by decide +kernel
theorem dX12_least_29 : decode cX12_least 29 = .ok (.istore_n 3, 1) := by decide +kernel
theorem dX12_least_30 : decode cX12_least 30 = .ok (.iload_n 3, 1) := by decide +kernel
theorem dX12_least_31 : decode cX12_least 31 = .ok (.iload_n 2, 1) := by decide +kernel
theorem dX12_least_32 : decode cX12_least 32 = .ok (.if_icmp .gt 173, 3) := by decide +kernel
theorem dX12_least_35 : decode cX12_least 35 = .ok (.iload_n 3, 1) := by decide +kernel
theorem dX12_least_36 : decode cX12_least 36 = .ok (.iload_n 2, 1) := by decide +kernel
theorem dX12_least_37 : decode cX12_least 37 = .ok (.iconst (-1), 1) := by decide +kernel
theorem dX12_least_38 : decode cX12_least 38 = .ok (.ixor, 1) := by decide +kernel
theorem dX12_least_39 : decode cX12_least 39 = .ok (.iand, 1) := by decide +kernel
theorem dX12_least_40 : decode cX12_least 40 = .ok (.ifCond .eq 6, 3) := by decide +kernel
theorem dX12_least_43 : decode cX12_least 43 = .ok (.goto 156, 3) := by decide +kernel
theorem dX12_least_46 : decode cX12_least 46 = .ok (.aload_n 0, 1) := by decide +kernel
theorem dX12_least_47 : decode cX12_least 47 = .ok (.getfield 39, 3) := by decide +kernel
theorem dX12_least_50 : decode cX12_least 50 = .ok (.iload_n 3, 1) := by decide +kernel
theorem dX12_least_51 : decode cX12_least 51 = .ok (.iconst 0, 1) := by decide +kernel
theorem dX12_least_52 : decode cX12_least 52 = .ok (.iastore, 1) := by decide +kernel
theorem dX12_least_53 : decode cX12_least 53 = .ok (.iconst 0, 1) := by decide +kernel
theorem dX12_least_54 : decode cX12_least 54 = .ok (.istore 4, 2) := by decide +kernel
theorem dX12_least_56 : decode cX12_least 56 = .ok (.iload 4, 2) := by decide +kernel
theorem dX12_least_58 : decode cX12_least 58 = .ok (.aload_n 0, 1) := by decide +kernel
theorem dX12_least_59 : decode cX12_least 59 = .ok (.invokevirtual 82, 3) := by decide +kernel
theorem dX12_least_62 : decode cX12_least 62 = .ok (.if_icmp .ge 37, 3) := by decide +kernel
theorem dX12_least_65 : decode cX12_least 65 = .ok (.aload_n 0, 1) := by decide +kernel
theorem dX12_least_66 : decode cX12_least 66 = .ok (.getfield 39, 3) := by decide +kernel
theorem dX12_least_69 : decode cX12_least 69 = .ok (.iload_n 3, 1) := by decide +kernel
theorem dX12_least_70 : decode cX12_least 70 = .ok (.dup2, 1) := by decide +kernel
theorem dX12_least_71 : decode cX12_least 71 = .ok (.iaload, 1) := by decide +kernel
theorem dX12_least_72 : decode cX12_least 72 = .ok (.iload_n 3, 1) := by decide +kernel
theorem dX12_least_73 : decode cX12_least 73 = .ok (.iload 4, 2) := by decide +kernel
theorem dX12_least_75 : decode cX12_least 75 = .ok (.invokestatic 319, 3) := by decide +kernel
theorem dX12_least_78 : decode cX12_least 78 = .ok (.ifCond .eq 12, 3) := by decide +kernel
theorem dX12_least_81 : decode cX12_least 81 = .ok (.aload_n 0, 1) := by decide +kernel
theorem dX12_least_82 : decode cX12_least 82 = .ok (.iload 4, 2) := by decide +kernel
theorem dX12_least_84 : decode cX12_least 84 = .ok (.invokevirtual 266, 3) := by decide +kernel
theorem dX12_least_87 : decode cX12_least 87 = .ok (.goto 4, 3) := by decide +kernel
theorem dX12_least_90 : decode cX12_least 90 = .ok (.iconst 0, 1) := by decide +kernel
theorem dX12_least_91 : decode cX12_least 91 = .ok (.iadd, 1) := by decide +kernel
theorem dX12_least_92 : decode cX12_least 92 = .ok (.iastore, 1) := by decide +kernel
theorem dX12_least_93 : decode cX12_least 93 = .ok (.iinc 4 1, 3) := by decide +kernel
theorem dX12_least_96 : decode cX12_least 96 = .ok (.goto (-40), 3) := by decide +kernel
theorem dX12_least_99 : decode cX12_least 99 = .ok (.aload_n 0, 1) := by decide +kernel
theorem dX12_least_100 : decode cX12_least 100 = .ok (.getfield 36, 3) := by decide +kernel
theorem dX12_least_103 : decode cX12_least 103 = .ok (.iload_n 3, 1) := by decide +kernel
theorem dX12_least_104 : decode cX12_least 104 = .ok (.iload_n 3, 1) := by decide +kernel
theorem dX12_least_105 : decode cX12_least 105 = .ok (.invokestatic 89, 3) := by decide +kernel
theorem dX12_least_108 : decode cX12_least 108 = .ok (.iconst 2, 1) := by decide +kernel
theorem dX12_least_109 : decode cX12_least 109 = .ok (.if_icmp .ge 7, 3) := by decide +kernel
theorem dX12_least_112 : decode cX12_least 112 = .ok (.iconst 0, 1) := by decide +kernel
theorem dX12_least_113 : decode cX12_least 113 = .ok (.goto 6, 3) := by decide +kernel
theorem dX12_least_116 : decode cX12_least 116 = .ok (.ldc_w 322, 3) := by decide +kernel
theorem dX12_least_119 : decode cX12_least 119 = .ok (.iastore, 1) := by decide +kernel
theorem dX12_least_120 : decode cX12_least 120 = .ok (.iload_n 3, 1) := by decide +kernel
theorem dX12_least_121 : decode cX12_least 121 = .ok (.iconst 1, 1) := by decide +kernel
theorem dX12_least_122 : decode cX12_least 122 = .ok (.isub, 1) := by decide +kernel
theorem dX12_least_123 : decode cX12_least 123 = .ok (.iload_n 3, 1) := by decide +kernel
theorem dX12_least_124 : decode cX12_least 124 = .ok (.iand, 1) := by decide +kernel
theorem dX12_least_125 : decode cX12_least 125 = .ok (.istore 4, 2) := by decide +kernel
theorem dX12_least_127 : decode cX12_least 127 = .ok (.iload 4, 2) := by decide +kernel
theorem dX12_least_129 : decode cX12_least 129 = .ok (.ifCond .le 70, 3) := by decide +kernel
theorem dX12_least_132 : decode cX12_least 132 = .ok (.aload_n 0, 1) := by decide +kernel
theorem dX12_least_133 : decode cX12_least 133 = .ok (.getfield 36, 3) := by decide +kernel
theorem dX12_least_136 : decode cX12_least 136 = .ok (.iload_n 3, 1) := by decide +kernel
theorem dX12_least_137 : decode cX12_least 137 = .ok (.aload_n 0, 1) := by decide +kernel
theorem dX12_least_138 : decode cX12_least 138 = .ok (.getfield 36, 3) := by decide +kernel
theorem dX12_least_141 : decode cX12_least 141 = .ok (.iload_n 3, 1) := by decide +kernel
theorem dX12_least_142 : decode cX12_least 142 = .ok (.iaload, 1) := by decide +kernel
theorem dX12_least_143 : decode cX12_least 143 = .ok (.aload_n 0, 1) := by decide +kernel
theorem dX12_least_144 : decode cX12_least 144 = .ok (.getfield 36, 3) := by decide +kernel
theorem dX12_least_147 : decode cX12_least 147 = .ok (.iload 4, 2) := by decide +kernel
theorem dX12_least_149 : decode cX12_least 149 = .ok (.iaload, 1) := by decide +kernel
theorem dX12_least_150 : decode cX12_least 150 = .ok (.aload_n 0, 1) := by decide +kernel
theorem dX12_least_151 : decode cX12_least 151 = .ok (.getfield 36, 3) := by decide +kernel
theorem dX12_least_154 : decode cX12_least 154 = .ok (.iload_n 3, 1) := by decide +kernel
theorem dX12_least_155 : decode cX12_least 155 = .ok (.iload 4, 2) := by decide +kernel
theorem dX12_least_157 : decode cX12_least 157 = .ok (.iconst (-1), 1) := by decide +kernel
theorem dX12_least_158 : decode cX12_least 158 = .ok (.ixor, 1) := by decide +kernel
theorem dX12_least_159 : decode cX12_least 159 = .ok (.iand, 1) := by decide +kernel
theorem dX12_least_160 : decode cX12_least 160 = .ok (.iaload, 1) := by decide +kernel
theorem dX12_least_161 : decode cX12_least 161 = .ok (.iadd, 1) := by decide +kernel
theorem dX12_least_162 : decode cX12_least 162 = .ok (.aload_n 0, 1) := by decide +kernel
theorem dX12_least_163 : decode cX12_least 163 = .ok (.getfield 39, 3) := by decide +kernel
theorem dX12_least_166 : decode cX12_least 166 = .ok (.iload 4, 2) := by decide +kernel
theorem dX12_least_168 : decode cX12_least 168 = .ok (.iaload, 1) := by decide +kernel
theorem dX12_least_169 : decode cX12_least 169 = .ok (.iadd, 1) := by decide +kernel
theorem dX12_least_170 : decode cX12_least 170 = .ok (.iconst 2, 1) := by decide +kernel
theorem dX12_least_171 : decode cX12_least 171 = .ok (.aload_n 0, 1) := by decide +kernel
theorem dX12_least_172 : decode cX12_least 172 = .ok (.getfield 39, 3) := by decide +kernel
theorem dX12_least_175 : decode cX12_least 175 = .ok (.iload_n 3, 1) := by decide +kernel
theorem dX12_least_176 : decode cX12_least 176 = .ok (.iload 4, 2) := by decide +kernel
theorem dX12_least_178 : decode cX12_least 178 = .ok (.iconst (-1), 1) := by decide +kernel
theorem dX12_least_179 : decode cX12_least 179 = .ok (.ixor, 1) := by decide +kernel
theorem dX12_least_180 : decode cX12_least 180 = .ok (.iand, 1) := by decide +kernel
theorem dX12_least_181 : decode cX12_least 181 = .ok (.iaload, 1) := by decide +kernel
theorem dX12_least_182 : decode cX12_least 182 = .ok (.imul, 1) := by decide +kernel
theorem dX12_least_183 : decode cX12_least 183 = .ok (.iadd, 1) := by decide +kernel
theorem dX12_least_184 : decode cX12_least 184 = .ok (.invokestatic 306, 3) := by decide +kernel
theorem dX12_least_187 : decode cX12_least 187 = .ok (.iastore, 1) := by decide +kernel
theorem dX12_least_188 : decode cX12_least 188 = .ok (.iload 4, 2) := by decide +kernel
theorem dX12_least_190 : decode cX12_least 190 = .ok (.iconst 1, 1) := by decide +kernel
theorem dX12_least_191 : decode cX12_least 191 = .ok (.isub, 1) := by decide +kernel
theorem dX12_least_192 : decode cX12_least 192 = .ok (.iload_n 3, 1) := by decide +kernel
theorem dX12_least_193 : decode cX12_least 193 = .ok (.iand, 1) := by decide +kernel
theorem dX12_least_194 : decode cX12_least 194 = .ok (.istore 4, 2) := by decide +kernel
theorem dX12_least_196 : decode cX12_least 196 = .ok (.goto (-69), 3) := by decide +kernel
theorem dX12_least_199 : decode cX12_least 199 = .ok (.iinc 3 1, 3) := by decide +kernel
theorem dX12_least_202 : decode cX12_least 202 = .ok (.goto (-172), 3) := by decide +kernel
theorem dX12_least_205 : decode cX12_least 205 = .ok (.iload_n 2, 1) := by decide +kernel
theorem dX12_least_206 : decode cX12_least 206 = .ok (.invokestatic 89, 3) := by decide +kernel
theorem dX12_least_209 : decode cX12_least 209 = .ok (.iconst 1, 1) := by decide +kernel
theorem dX12_least_210 : decode cX12_least 210 = .ok (.if_icmp .ne 12, 3) := by decide +kernel
theorem dX12_least_213 : decode cX12_least 213 = .ok (.aload_n 0, 1) := by decide +kernel
theorem dX12_least_214 : decode cX12_least 214 = .ok (.getfield 39, 3) := by decide +kernel
theorem dX12_least_217 : decode cX12_least 217 = .ok (.iload_n 2, 1) := by decide +kernel
theorem dX12_least_218 : decode cX12_least 218 = .ok (.iaload, 1) := by decide +kernel
theorem dX12_least_219 : decode cX12_least 219 = .ok (.goto 9, 3) := by decide +kernel
theorem dX12_least_222 : decode cX12_least 222 = .ok (.aload_n 0, 1) := by decide +kernel
theorem dX12_least_223 : decode cX12_least 223 = .ok (.getfield 36, 3) := by decide +kernel
theorem dX12_least_226 : decode cX12_least 226 = .ok (.iload_n 2, 1) := by decide +kernel
theorem dX12_least_227 : decode cX12_least 227 = .ok (.iaload, 1) := by decide +kernel
theorem dX12_least_228 : decode cX12_least 228 = .ok (.ireturn, 1) := by decide +kernel
theorem dX12_isFree_0 : decode cX12_isFree 0 = .ok (.iconst 1, 1) := by decide +kernel
theorem dX12_isFree_1 : decode cX12_isFree 1 = .ok (.istore_n 3, 1) := by decide +kernel
theorem dX12_isFree_2 : decode cX12_isFree 2 = .ok (.iconst 0, 1) := by decide +kernel
theorem dX12_isFree_3 : decode cX12_isFree 3 = .ok (.istore 4, 2) := by decide +kernel
theorem dX12_isFree_5 : decode cX12_isFree 5 = .ok (.iload 4, 2) := by decide +kernel
theorem dX12_isFree_7 : decode cX12_isFree 7 = .ok (.iload_n 1, 1) := by decide +kernel
theorem dX12_isFree_8 : decode cX12_isFree 8 = .ok (.if_icmp .ge 40, 3) := by decide +kernel
theorem dX12_isFree_11 : decode cX12_isFree 11 = .ok (.iload_n 3, 1) := by decide +kernel
theorem dX12_isFree_12 : decode cX12_isFree 12 = .ok (.ifCond .eq 28, 3) := by decide +kernel
theorem dX12_isFree_15 : decode cX12_isFree 15 = .ok (.aload_n 0, 1) := by decide +kernel
theorem dX12_isFree_16 : decode cX12_isFree 16 = .ok (.getfield 42, 3) := by decide +kernel
theorem dX12_isFree_19 : decode cX12_isFree 19 = .ok (.iload 4, 2) := by decide +kernel
theorem dX12_isFree_21 : decode cX12_isFree 21 = .ok (.iaload, 1) := by decide +kernel
theorem dX12_isFree_22 : decode cX12_isFree 22 = .ok (.iload_n 2, 1) := by decide +kernel
theorem dX12_isFree_23 : decode cX12_isFree 23 = .ok (.if_icmp .ne 13, 3) := by decide +kernel
theorem dX12_isFree_26 : decode cX12_isFree 26 = .ok (.aload_n 0, 1) := by decide +kernel
theorem dX12_isFree_27 : decode cX12_isFree 27 = .ok (.iload 4, 2) := by decide +kernel
theorem dX12_isFree_29 : decode cX12_isFree 29 = .ok (.iload_n 1, 1) := by decide +kernel
theorem dX12_isFree_30 : decode cX12_isFree 30 = .ok (.invokevirtual 274, 3) := by decide +kernel
theorem dX12_isFree_33 : decode cX12_isFree 33 = .ok (.ifCond .ne 7, 3) := by decide +kernel
theorem dX12_isFree_36 : decode cX12_isFree 36 = .ok (.iconst 1, 1) := by decide +kernel
theorem dX12_isFree_37 : decode cX12_isFree 37 = .ok (.goto 4, 3) := by decide +kernel
theorem dX12_isFree_40 : decode cX12_isFree 40 = .ok (.iconst 0, 1) := by decide +kernel
theorem dX12_isFree_41 : decode cX12_isFree 41 = .ok (.istore_n 3, 1) := by decide +kernel
theorem dX12_isFree_42 : decode cX12_isFree 42 = .ok (.iinc 4 1, 3) := by decide +kernel
theorem dX12_isFree_45 : decode cX12_isFree 45 = .ok (.goto (-40), 3) := by decide +kernel
theorem dX12_isFree_48 : decode cX12_isFree 48 = .ok (.iload_n 3, 1) := by decide +kernel
theorem dX12_isFree_49 : decode cX12_isFree 49 = .ok (.ireturn, 1) := by decide +kernel
theorem dX12_paints_0 : decode cX12_paints 0 = .ok (.iconst 0, 1) := by decide +kernel
theorem dX12_paints_1 : decode cX12_paints 1 = .ok (.istore_n 2, 1) := by decide +kernel
theorem dX12_paints_2 : decode cX12_paints 2 = .ok (.iconst 0, 1) := by decide +kernel
theorem dX12_paints_3 : decode cX12_paints 3 = .ok (.istore_n 3, 1) := by decide +kernel
theorem dX12_paints_4 : decode cX12_paints 4 = .ok (.iload_n 3, 1) := by decide +kernel
theorem dX12_paints_5 : decode cX12_paints 5 = .ok (.bipush 8, 2) := by decide +kernel
theorem dX12_paints_7 : decode cX12_paints 7 = .ok (.if_icmp .ge 16, 3) := by decide +kernel
theorem dX12_paints_10 : decode cX12_paints 10 = .ok (.aload_n 0, 1) := by decide +kernel
theorem dX12_paints_11 : decode cX12_paints 11 = .ok (.getfield 42, 3) := by decide +kernel
theorem dX12_paints_14 : decode cX12_paints 14 = .ok (.iload_n 3, 1) := by decide +kernel
theorem dX12_paints_15 : decode cX12_paints 15 = .ok (.iconst (-1), 1) := by decide +kernel
theorem dX12_paints_16 : decode cX12_paints 16 = .ok (.iastore, 1) := by decide +kernel
theorem dX12_paints_17 : decode cX12_paints 17 = .ok (.iinc 3 1, 3) := by decide +kernel
theorem dX12_paints_20 : decode cX12_paints 20 = .ok (.goto (-16), 3) := by decide +kernel
theorem dX12_paints_23 : decode cX12_paints 23 = .ok (.iload_n 2, 1) := by decide +kernel
theorem dX12_paints_24 : decode cX12_paints 24 = .ok (.ifCond .lt 72, 3) := by decide +kernel
theorem dX12_paints_27 : decode cX12_paints 27 = .ok (.iload_n 2, 1) := by decide +kernel
theorem dX12_paints_28 : decode cX12_paints 28 = .ok (.aload_n 0, 1) := by decide +kernel
theorem dX12_paints_29 : decode cX12_paints 29 = .ok (.invokevirtual 74, 3) := by decide +kernel
theorem dX12_paints_32 : decode cX12_paints 32 = .ok (.if_icmp .ge 64, 3) := by decide +kernel
theorem dX12_paints_35 : decode cX12_paints 35 = .ok (.aload_n 0, 1) := by decide +kernel
theorem dX12_paints_36 : decode cX12_paints 36 = .ok (.getfield 42, 3) := by decide +kernel
theorem dX12_paints_39 : decode cX12_paints 39 = .ok (.iload_n 2, 1) := by decide +kernel
theorem dX12_paints_40 : decode cX12_paints 40 = .ok (.iaload, 1) := by decide +kernel
theorem dX12_paints_41 : decode cX12_paints 41 = .ok (.iconst 1, 1) := by decide +kernel
theorem dX12_paints_42 : decode cX12_paints 42 = .ok (.iadd, 1) := by decide +kernel
theorem dX12_paints_43 : decode cX12_paints 43 = .ok (.istore_n 3, 1) := by decide +kernel
theorem dX12_paints_44 : decode cX12_paints 44 = .ok (.iload_n 3, 1) := by decide +kernel
theorem dX12_paints_45 : decode cX12_paints 45 = .ok (.iload_n 1, 1) := by decide +kernel
theorem dX12_paints_46 : decode cX12_paints 46 = .ok (.if_icmp .ge 18, 3) := by decide +kernel
theorem dX12_paints_49 : decode cX12_paints 49 = .ok (.aload_n 0, 1) := by decide +kernel
theorem dX12_paints_50 : decode cX12_paints 50 = .ok (.iload_n 2, 1) := by decide +kernel
theorem dX12_paints_51 : decode cX12_paints 51 = .ok (.iload_n 3, 1) := by decide +kernel
theorem dX12_paints_52 : decode cX12_paints 52 = .ok (.invokevirtual 323, 3) := by decide +kernel
theorem dX12_paints_55 : decode cX12_paints 55 = .ok (.ifCond .ne 9, 3) := by decide +kernel
theorem dX12_paints_58 : decode cX12_paints 58 = .ok (.iinc 3 1, 3) := by decide +kernel
theorem dX12_paints_61 : decode cX12_paints 61 = .ok (.goto (-17), 3) := by decide +kernel
theorem dX12_paints_64 : decode cX12_paints 64 = .ok (.aload_n 0, 1) := by decide +kernel
theorem dX12_paints_65 : decode cX12_paints 65 = .ok (.getfield 42, 3) := by decide +kernel
theorem dX12_paints_68 : decode cX12_paints 68 = .ok (.iload_n 2, 1) := by decide +kernel
theorem dX12_paints_69 : decode cX12_paints 69 = .ok (.iload_n 3, 1) := by decide +kernel
theorem dX12_paints_70 : decode cX12_paints 70 = .ok (.iload_n 1, 1) := by decide +kernel
theorem dX12_paints_71 : decode cX12_paints 71 = .ok (.if_icmp .ge 7, 3) := by decide +kernel
theorem dX12_paints_74 : decode cX12_paints 74 = .ok (.iload_n 3, 1) := by decide +kernel
theorem dX12_paints_75 : decode cX12_paints 75 = .ok (.goto 4, 3) := by decide +kernel
theorem dX12_paints_78 : decode cX12_paints 78 = .ok (.iconst (-1), 1) := by decide +kernel
theorem dX12_paints_79 : decode cX12_paints 79 = .ok (.iastore, 1) := by decide +kernel
theorem dX12_paints_80 : decode cX12_paints 80 = .ok (.iload_n 2, 1) := by decide +kernel
theorem dX12_paints_81 : decode cX12_paints 81 = .ok (.iload_n 3, 1) := by decide +kernel
theorem dX12_paints_82 : decode cX12_paints 82 = .ok (.iload_n 1, 1) := by decide +kernel
theorem dX12_paints_83 : decode cX12_paints 83 = .ok (.if_icmp .ge 7, 3) := by decide +kernel
theorem dX12_paints_86 : decode cX12_paints 86 = .ok (.iconst 1, 1) := by decide +kernel
theorem dX12_paints_87 : decode cX12_paints 87 = .ok (.goto 4, 3) := by decide +kernel
theorem dX12_paints_90 : decode cX12_paints 90 = .ok (.iconst (-1), 1) := by decide +kernel
theorem dX12_paints_91 : decode cX12_paints 91 = .ok (.iadd, 1) := by decide +kernel
theorem dX12_paints_92 : decode cX12_paints 92 = .ok (.istore_n 2, 1) := by decide +kernel
theorem dX12_paints_93 : decode cX12_paints 93 = .ok (.goto (-70), 3) := by decide +kernel
theorem dX12_paints_96 : decode cX12_paints 96 = .ok (.iload_n 2, 1) := by decide +kernel
theorem dX12_paints_97 : decode cX12_paints 97 = .ok (.ifCond .lt 7, 3) := by decide +kernel
theorem dX12_paints_100 : decode cX12_paints 100 = .ok (.iconst 1, 1) := by decide +kernel
theorem dX12_paints_101 : decode cX12_paints 101 = .ok (.goto 4, 3) := by decide +kernel
theorem dX12_paints_104 : decode cX12_paints 104 = .ok (.iconst 0, 1) := by decide +kernel
theorem dX12_paints_105 : decode cX12_paints 105 = .ok (.ireturn, 1) := by decide +kernel
theorem dX12_colours_0 : decode cX12_colours 0 = .ok (.aload_n 0, 1) := by decide +kernel
theorem dX12_colours_1 : decode cX12_colours 1 = .ok (.iconst 0, 1) := by decide +kernel
theorem dX12_colours_2 : decode cX12_colours 2 = .ok (.putfield 3, 3) := by decide +kernel
theorem dX12_colours_5 : decode cX12_colours 5 = .ok (.aload_n 0, 1) := by decide +kernel
theorem dX12_colours_6 : decode cX12_colours 6 = .ok (.iload_n 1, 1) := by decide +kernel
theorem dX12_colours_7 : decode cX12_colours 7 = .ok (.iconst (-1), 1) := by decide +kernel
theorem dX12_colours_8 : decode cX12_colours 8 = .ok (.if_icmp .eq 15, 3) := by decide +kernel
theorem dX12_colours_11 : decode cX12_colours 11 = .ok (.aload_n 0, 1) := by decide +kernel
theorem dX12_colours_12 : decode cX12_colours 12 = .ok (.iload_n 1, 1) := by decide +kernel
theorem dX12_colours_13 : decode cX12_colours 13 = .ok (.invokevirtual 257, 3) := by decide +kernel
theorem dX12_colours_16 : decode cX12_colours 16 = .ok (.ifCond .eq 7, 3) := by decide +kernel
theorem dX12_colours_19 : decode cX12_colours 19 = .ok (.iconst 1, 1) := by decide +kernel
theorem dX12_colours_20 : decode cX12_colours 20 = .ok (.goto 4, 3) := by decide +kernel
theorem dX12_colours_23 : decode cX12_colours 23 = .ok (.iconst 0, 1) := by decide +kernel
theorem dX12_colours_24 : decode cX12_colours 24 = .ok (.iconst 1, 1) := by decide +kernel
theorem dX12_colours_25 : decode cX12_colours 25 = .ok (.invokevirtual 242, 3) := by decide +kernel
theorem dX12_colours_28 : decode cX12_colours 28 = .ok (.ifCond .eq 5, 3) := by decide +kernel
theorem dX12_colours_31 : decode cX12_colours 31 = .ok (.iconst 0, 1) := by decide +kernel
theorem dX12_colours_32 : decode cX12_colours 32 = .ok (.ireturn, 1) := by decide +kernel
theorem dX12_colours_33 : decode cX12_colours 33 = .ok (.iconst 0, 1) := by decide +kernel
theorem dX12_colours_34 : decode cX12_colours 34 = .ok (.istore_n 2, 1) := by decide +kernel
theorem dX12_colours_35 : decode cX12_colours 35 = .ok (.aload_n 0, 1) := by decide +kernel
theorem dX12_colours_36 : decode cX12_colours 36 = .ok (.iload_n 2, 1) := by decide +kernel
theorem dX12_colours_37 : decode cX12_colours 37 = .ok (.invokevirtual 326, 3) := by decide +kernel
theorem dX12_colours_40 : decode cX12_colours 40 = .ok (.ifCond .ne 9, 3) := by decide +kernel
theorem dX12_colours_43 : decode cX12_colours 43 = .ok (.iinc 2 1, 3) := by decide +kernel
theorem dX12_colours_46 : decode cX12_colours 46 = .ok (.goto (-11), 3) := by decide +kernel
theorem dX12_colours_49 : decode cX12_colours 49 = .ok (.iload_n 1, 1) := by decide +kernel
theorem dX12_colours_50 : decode cX12_colours 50 = .ok (.iconst (-1), 1) := by decide +kernel
theorem dX12_colours_51 : decode cX12_colours 51 = .ok (.if_icmp .ne 7, 3) := by decide +kernel
theorem dX12_colours_54 : decode cX12_colours 54 = .ok (.iload_n 2, 1) := by decide +kernel
theorem dX12_colours_55 : decode cX12_colours 55 = .ok (.goto 9, 3) := by decide +kernel
theorem dX12_colours_58 : decode cX12_colours 58 = .ok (.aload_n 0, 1) := by decide +kernel
theorem dX12_colours_59 : decode cX12_colours 59 = .ok (.getfield 42, 3) := by decide +kernel
theorem dX12_colours_62 : decode cX12_colours 62 = .ok (.iload_n 1, 1) := by decide +kernel
theorem dX12_colours_63 : decode cX12_colours 63 = .ok (.iaload, 1) := by decide +kernel
theorem dX12_colours_64 : decode cX12_colours 64 = .ok (.ireturn, 1) := by decide +kernel
theorem dX12_spreads_0 : decode cX12_spreads 0 = .ok (.iconst 0, 1) := by decide +kernel
theorem dX12_spreads_1 : decode cX12_spreads 1 = .ok (.istore 4, 2) := by decide +kernel
theorem dX12_spreads_3 : decode cX12_spreads 3 = .ok (.iload 4, 2) := by decide +kernel
theorem dX12_spreads_5 : decode cX12_spreads 5 = .ok (.bipush 8, 2) := by decide +kernel
theorem dX12_spreads_7 : decode cX12_spreads 7 = .ok (.if_icmp .ge 19, 3) := by decide +kernel
theorem dX12_spreads_10 : decode cX12_spreads 10 = .ok (.aload_n 0, 1) := by decide +kernel
theorem dX12_spreads_11 : decode cX12_spreads 11 = .ok (.getfield 45, 3) := by decide +kernel
theorem dX12_spreads_14 : decode cX12_spreads 14 = .ok (.iload 4, 2) := by decide +kernel
theorem dX12_spreads_16 : decode cX12_spreads 16 = .ok (.ldc_w 322, 3) := by decide +kernel
theorem dX12_spreads_19 : decode cX12_spreads 19 = .ok (.iastore, 1) := by decide +kernel
theorem dX12_spreads_20 : decode cX12_spreads 20 = .ok (.iinc 4 1, 3) := by decide +kernel
theorem dX12_spreads_23 : decode cX12_spreads 23 = .ok (.goto (-20), 3) := by decide +kernel
theorem dX12_spreads_26 : decode cX12_spreads 26 = .ok (.aload_n 0, 1) := by decide +kernel
theorem dX12_spreads_27 : decode cX12_spreads 27 = .ok (.getfield 45, 3) := by decide +kernel
theorem dX12_spreads_30 : decode cX12_spreads 30 = .ok (.iload_n 1, 1) := by decide +kernel
theorem dX12_spreads_31 : decode cX12_spreads 31 = .ok (.iconst 0, 1) := by decide +kernel
theorem dX12_spreads_32 : decode cX12_spreads 32 = .ok (.iastore, 1) := by decide +kernel
theorem dX12_spreads_33 : decode cX12_spreads 33 = .ok (.iconst 1, 1) := by decide +kernel
theorem dX12_spreads_34 : decode cX12_spreads 34 = .ok (.istore 4, 2) := by decide +kernel
theorem dX12_spreads_36 : decode cX12_spreads 36 = .ok (.iload 4, 2) := by decide +kernel
theorem dX12_spreads_38 : decode cX12_spreads 38 = .ok (.ifCond .eq 149, 3) := by decide +kernel
theorem dX12_spreads_41 : decode cX12_spreads 41 = .ok (.iconst 0, 1) := by decide +kernel
theorem dX12_spreads_42 : decode cX12_spreads 42 = .ok (.istore 4, 2) := by decide +kernel
theorem dX12_spreads_44 : decode cX12_spreads 44 = .ok (.iconst 0, 1) := by decide +kernel
theorem dX12_spreads_45 : decode cX12_spreads 45 = .ok (.istore 5, 2) := by decide +kernel
theorem dX12_spreads_47 : decode cX12_spreads 47 = .ok (.iload 5, 2) := by decide +kernel
theorem dX12_spreads_49 : decode cX12_spreads 49 = .ok (.aload_n 0, 1) := by decide +kernel
theorem dX12_spreads_50 : decode cX12_spreads 50 = .ok (.invokevirtual 74, 3) := by decide +kernel
theorem dX12_spreads_53 : decode cX12_spreads 53 = .ok (.if_icmp .ge 131, 3) := by decide +kernel
theorem dX12_spreads_56 : decode cX12_spreads 56 = .ok (.aload_n 0, 1) := by decide +kernel
theorem dX12_spreads_57 : decode cX12_spreads 57 = .ok (.iload 5, 2) := by decide +kernel
theorem dX12_spreads_59 : decode cX12_spreads 59 = .ok (.iload_n 2, 1) := by decide +kernel
theorem dX12_spreads_60 : decode cX12_spreads 60 = .ok (.invokevirtual 254, 3) := by decide +kernel
theorem dX12_spreads_63 : decode cX12_spreads 63 = .ok (.istore 6, 2) := by decide +kernel
theorem dX12_spreads_65 : decode cX12_spreads 65 = .ok (.aload_n 0, 1) := by decide +kernel
theorem dX12_spreads_66 : decode cX12_spreads 66 = .ok (.getfield 45, 3) := by decide +kernel
theorem dX12_spreads_69 : decode cX12_spreads 69 = .ok (.iload 5, 2) := by decide +kernel
theorem dX12_spreads_71 : decode cX12_spreads 71 = .ok (.iaload, 1) := by decide +kernel
theorem dX12_spreads_72 : decode cX12_spreads 72 = .ok (.ldc_w 322, 3) := by decide +kernel
theorem dX12_spreads_75 : decode cX12_spreads 75 = .ok (.if_icmp .eq 103, 3) := by decide +kernel
theorem dX12_spreads_78 : decode cX12_spreads 78 = .ok (.iload_n 3, 1) := by decide +kernel
theorem dX12_spreads_79 : decode cX12_spreads 79 = .ok (.iload 5, 2) := by decide +kernel
theorem dX12_spreads_81 : decode cX12_spreads 81 = .ok (.invokestatic 319, 3) := by decide +kernel
theorem dX12_spreads_84 : decode cX12_spreads 84 = .ok (.ifCond .eq 94, 3) := by decide +kernel
theorem dX12_spreads_87 : decode cX12_spreads 87 = .ok (.iload 6, 2) := by decide +kernel
theorem dX12_spreads_89 : decode cX12_spreads 89 = .ok (.ifCond .ne 6, 3) := by decide +kernel
theorem dX12_spreads_92 : decode cX12_spreads 92 = .ok (.goto 86, 3) := by decide +kernel
theorem dX12_spreads_95 : decode cX12_spreads 95 = .ok (.iconst 0, 1) := by decide +kernel
theorem dX12_spreads_96 : decode cX12_spreads 96 = .ok (.istore 7, 2) := by decide +kernel
theorem dX12_spreads_98 : decode cX12_spreads 98 = .ok (.iload 7, 2) := by decide +kernel
theorem dX12_spreads_100 : decode cX12_spreads 100 = .ok (.aload_n 0, 1) := by decide +kernel
theorem dX12_spreads_101 : decode cX12_spreads 101 = .ok (.invokevirtual 74, 3) := by decide +kernel
theorem dX12_spreads_104 : decode cX12_spreads 104 = .ok (.if_icmp .ge 74, 3) := by decide +kernel
theorem dX12_spreads_107 : decode cX12_spreads 107 = .ok (.aload_n 0, 1) := by decide +kernel
theorem dX12_spreads_108 : decode cX12_spreads 108 = .ok (.iload 7, 2) := by decide +kernel
theorem dX12_spreads_110 : decode cX12_spreads 110 = .ok (.iload 5, 2) := by decide +kernel
theorem dX12_spreads_112 : decode cX12_spreads 112 = .ok (.invokevirtual 271, 3) := by decide +kernel
theorem dX12_spreads_115 : decode cX12_spreads 115 = .ok (.iload 6, 2) := by decide +kernel
theorem dX12_spreads_117 : decode cX12_spreads 117 = .ok (.invokestatic 85, 3) := by decide +kernel
theorem dX12_spreads_120 : decode cX12_spreads 120 = .ok (.if_icmp .lt 52, 3) := by decide +kernel
theorem dX12_spreads_123 : decode cX12_spreads 123 = .ok (.aload_n 0, 1) := by decide +kernel
theorem dX12_spreads_124 : decode cX12_spreads 124 = .ok (.getfield 45, 3) := by decide +kernel
theorem dX12_spreads_127 : decode cX12_spreads 127 = .ok (.iload 5, 2) := by decide +kernel
theorem dX12_spreads_129 : decode cX12_spreads 129 = .ok (.iaload, 1) := by decide +kernel
theorem dX12_spreads_130 : decode cX12_spreads 130 = .ok (.iload 6, 2) := by decide +kernel
theorem dX12_spreads_132 : decode cX12_spreads 132 = .ok (.invokestatic 268, 3) := by decide +kernel
theorem dX12_spreads_135 : decode cX12_spreads 135 = .ok (.iadd, 1) := by decide +kernel
theorem dX12_spreads_136 : decode cX12_spreads 136 = .ok (.aload_n 0, 1) := by decide +kernel
theorem dX12_spreads_137 : decode cX12_spreads 137 = .ok (.getfield 45, 3) := by decide +kernel
theorem dX12_spreads_140 : decode cX12_spreads 140 = .ok (.iload 7, 2) := by decide +kernel
theorem dX12_spreads_142 : decode cX12_spreads 142 = .ok (.iaload, 1) := by decide +kernel
theorem dX12_spreads_143 : decode cX12_spreads 143 = .ok (.if_icmp .lt 6, 3) := by decide +kernel
theorem dX12_spreads_146 : decode cX12_spreads 146 = .ok (.goto 26, 3) := by decide +kernel
theorem dX12_spreads_149 : decode cX12_spreads 149 = .ok (.aload_n 0, 1) := by decide +kernel
theorem dX12_spreads_150 : decode cX12_spreads 150 = .ok (.getfield 45, 3) := by decide +kernel
theorem dX12_spreads_153 : decode cX12_spreads 153 = .ok (.iload 7, 2) := by decide +kernel
theorem dX12_spreads_155 : decode cX12_spreads 155 = .ok (.aload_n 0, 1) := by decide +kernel
theorem dX12_spreads_156 : decode cX12_spreads 156 = .ok (.getfield 45, 3) := by decide +kernel
theorem dX12_spreads_159 : decode cX12_spreads 159 = .ok (.iload 5, 2) := by decide +kernel
theorem dX12_spreads_161 : decode cX12_spreads 161 = .ok (.iaload, 1) := by decide +kernel
theorem dX12_spreads_162 : decode cX12_spreads 162 = .ok (.iload 6, 2) := by decide +kernel
theorem dX12_spreads_164 : decode cX12_spreads 164 = .ok (.invokestatic 268, 3) := by decide +kernel
theorem dX12_spreads_167 : decode cX12_spreads 167 = .ok (.iadd, 1) := by decide +kernel
theorem dX12_spreads_168 : decode cX12_spreads 168 = .ok (.iastore, 1) := by decide +kernel
theorem dX12_spreads_169 : decode cX12_spreads 169 = .ok (.iconst 1, 1) := by decide +kernel
theorem dX12_spreads_170 : decode cX12_spreads 170 = .ok (.istore 4, 2) := by decide +kernel
theorem dX12_spreads_172 : decode cX12_spreads 172 = .ok (.iinc 7 1, 3) := by decide +kernel
theorem dX12_spreads_175 : decode cX12_spreads 175 = .ok (.goto (-77), 3) := by decide +kernel
theorem dX12_spreads_178 : decode cX12_spreads 178 = .ok (.iinc 5 1, 3) := by decide +kernel
theorem dX12_spreads_181 : decode cX12_spreads 181 = .ok (.goto (-134), 3) := by decide +kernel
theorem dX12_spreads_184 : decode cX12_spreads 184 = .ok (.goto (-148), 3) := by decide +kernel
theorem dX12_spreads_187 : decode cX12_spreads 187 = .ok (.return_, 1) := by decide +kernel
theorem dX12_relay_0 : decode cX12_relay 0 = .ok (.aload_n 0, 1) := by decide +kernel
theorem dX12_relay_1 : decode cX12_relay 1 = .ok (.iconst 0, 1) := by decide +kernel
theorem dX12_relay_2 : decode cX12_relay 2 = .ok (.putfield 3, 3) := by decide +kernel
theorem dX12_relay_5 : decode cX12_relay 5 = .ok (.aload_n 0, 1) := by decide +kernel
theorem dX12_relay_6 : decode cX12_relay 6 = .ok (.aload_n 0, 1) := by decide +kernel
theorem dX12_relay_7 : decode cX12_relay 7 = .ok (.iload_n 1, 1) := by decide +kernel
theorem dX12_relay_8 : decode cX12_relay 8 = .ok (.invokevirtual 257, 3) := by decide +kernel
theorem dX12_relay_11 : decode cX12_relay 11 = .ok (.ifCond .ne 19, 3) := by decide +kernel
theorem dX12_relay_14 : decode cX12_relay 14 = .ok (.aload_n 0, 1) := by decide +kernel
theorem dX12_relay_15 : decode cX12_relay 15 = .ok (.iload_n 2, 1) := by decide +kernel
theorem dX12_relay_16 : decode cX12_relay 16 = .ok (.invokevirtual 263, 3) := by decide +kernel
theorem dX12_relay_19 : decode cX12_relay 19 = .ok (.ifCond .ne 11, 3) := by decide +kernel
theorem dX12_relay_22 : decode cX12_relay 22 = .ok (.aload_n 0, 1) := by decide +kernel
theorem dX12_relay_23 : decode cX12_relay 23 = .ok (.iload_n 3, 1) := by decide +kernel
theorem dX12_relay_24 : decode cX12_relay 24 = .ok (.invokevirtual 257, 3) := by decide +kernel
theorem dX12_relay_27 : decode cX12_relay 27 = .ok (.ifCond .eq 7, 3) := by decide +kernel
theorem dX12_relay_30 : decode cX12_relay 30 = .ok (.iconst 1, 1) := by decide +kernel
theorem dX12_relay_31 : decode cX12_relay 31 = .ok (.goto 4, 3) := by decide +kernel
theorem dX12_relay_34 : decode cX12_relay 34 = .ok (.iconst 0, 1) := by decide +kernel
theorem dX12_relay_35 : decode cX12_relay 35 = .ok (.iconst 1, 1) := by decide +kernel
theorem dX12_relay_36 : decode cX12_relay 36 = .ok (.invokevirtual 242, 3) := by decide +kernel
theorem dX12_relay_39 : decode cX12_relay 39 = .ok (.ifCond .ne 25, 3) := by decide +kernel
theorem dX12_relay_42 : decode cX12_relay 42 = .ok (.aload_n 0, 1) := by decide +kernel
theorem dX12_relay_43 : decode cX12_relay 43 = .ok (.aload_n 0, 1) := by decide +kernel
theorem dX12_relay_44 : decode cX12_relay 44 = .ok (.iload_n 1, 1) := by decide +kernel
theorem dX12_relay_45 : decode cX12_relay 45 = .ok (.iload_n 2, 1) := by decide +kernel
theorem dX12_relay_46 : decode cX12_relay 46 = .ok (.invokevirtual 254, 3) := by decide +kernel
theorem dX12_relay_49 : decode cX12_relay 49 = .ok (.ifCond .ne 7, 3) := by decide +kernel
theorem dX12_relay_52 : decode cX12_relay 52 = .ok (.iconst 1, 1) := by decide +kernel
theorem dX12_relay_53 : decode cX12_relay 53 = .ok (.goto 4, 3) := by decide +kernel
theorem dX12_relay_56 : decode cX12_relay 56 = .ok (.iconst 0, 1) := by decide +kernel
theorem dX12_relay_57 : decode cX12_relay 57 = .ok (.iconst 2, 1) := by decide +kernel
theorem dX12_relay_58 : decode cX12_relay 58 = .ok (.invokevirtual 242, 3) := by decide +kernel
theorem dX12_relay_61 : decode cX12_relay 61 = .ok (.ifCond .eq 5, 3) := by decide +kernel
theorem dX12_relay_64 : decode cX12_relay 64 = .ok (.iconst 0, 1) := by decide +kernel
theorem dX12_relay_65 : decode cX12_relay 65 = .ok (.ireturn, 1) := by decide +kernel
theorem dX12_relay_66 : decode cX12_relay 66 = .ok (.aload_n 0, 1) := by decide +kernel
theorem dX12_relay_67 : decode cX12_relay 67 = .ok (.iload_n 1, 1) := by decide +kernel
theorem dX12_relay_68 : decode cX12_relay 68 = .ok (.iload_n 2, 1) := by decide +kernel
theorem dX12_relay_69 : decode cX12_relay 69 = .ok (.sipush 255, 3) := by decide +kernel
theorem dX12_relay_72 : decode cX12_relay 72 = .ok (.invokevirtual 329, 3) := by decide +kernel
theorem dX12_relay_75 : decode cX12_relay 75 = .ok (.aload_n 0, 1) := by decide +kernel
theorem dX12_relay_76 : decode cX12_relay 76 = .ok (.getfield 45, 3) := by decide +kernel
theorem dX12_relay_79 : decode cX12_relay 79 = .ok (.iload_n 3, 1) := by decide +kernel
theorem dX12_relay_80 : decode cX12_relay 80 = .ok (.iaload, 1) := by decide +kernel
theorem dX12_relay_81 : decode cX12_relay 81 = .ok (.ldc_w 322, 3) := by decide +kernel
theorem dX12_relay_84 : decode cX12_relay 84 = .ok (.if_icmp .ne 7, 3) := by decide +kernel
theorem dX12_relay_87 : decode cX12_relay 87 = .ok (.iconst (-1), 1) := by decide +kernel
theorem dX12_relay_88 : decode cX12_relay 88 = .ok (.goto 9, 3) := by decide +kernel
theorem dX12_relay_91 : decode cX12_relay 91 = .ok (.aload_n 0, 1) := by decide +kernel
theorem dX12_relay_92 : decode cX12_relay 92 = .ok (.getfield 45, 3) := by decide +kernel
theorem dX12_relay_95 : decode cX12_relay 95 = .ok (.iload_n 3, 1) := by decide +kernel
theorem dX12_relay_96 : decode cX12_relay 96 = .ok (.iaload, 1) := by decide +kernel
theorem dX12_relay_97 : decode cX12_relay 97 = .ok (.ireturn, 1) := by decide +kernel
theorem dX12_ringers_0 : decode cX12_ringers 0 = .ok (.aload_n 0, 1) := by decide +kernel
theorem dX12_ringers_1 : decode cX12_ringers 1 = .ok (.iconst 0, 1) := by decide +kernel
theorem dX12_ringers_2 : decode cX12_ringers 2 = .ok (.putfield 3, 3) := by decide +kernel
theorem dX12_ringers_5 : decode cX12_ringers 5 = .ok (.aload_n 0, 1) := by decide +kernel
theorem dX12_ringers_6 : decode cX12_ringers 6 = .ok (.aload_n 0, 1) := by decide +kernel
theorem dX12_ringers_7 : decode cX12_ringers 7 = .ok (.iload_n 1, 1) := by decide +kernel
theorem dX12_ringers_8 : decode cX12_ringers 8 = .ok (.invokevirtual 257, 3) := by decide +kernel
theorem dX12_ringers_11 : decode cX12_ringers 11 = .ok (.ifCond .ne 11, 3) := by decide +kernel
theorem dX12_ringers_14 : decode cX12_ringers 14 = .ok (.aload_n 0, 1) := by decide +kernel
theorem dX12_ringers_15 : decode cX12_ringers 15 = .ok (.iload_n 2, 1) := by decide +kernel
theorem dX12_ringers_16 : decode cX12_ringers 16 = .ok (.invokevirtual 263, 3) := by decide +kernel
theorem dX12_ringers_19 : decode cX12_ringers 19 = .ok (.ifCond .eq 7, 3) := by decide +kernel
theorem dX12_ringers_22 : decode cX12_ringers 22 = .ok (.iconst 1, 1) := by decide +kernel
theorem dX12_ringers_23 : decode cX12_ringers 23 = .ok (.goto 4, 3) := by decide +kernel
theorem dX12_ringers_26 : decode cX12_ringers 26 = .ok (.iconst 0, 1) := by decide +kernel
theorem dX12_ringers_27 : decode cX12_ringers 27 = .ok (.iconst 1, 1) := by decide +kernel
theorem dX12_ringers_28 : decode cX12_ringers 28 = .ok (.invokevirtual 242, 3) := by decide +kernel
theorem dX12_ringers_31 : decode cX12_ringers 31 = .ok (.ifCond .ne 25, 3) := by decide +kernel
theorem dX12_ringers_34 : decode cX12_ringers 34 = .ok (.aload_n 0, 1) := by decide +kernel
theorem dX12_ringers_35 : decode cX12_ringers 35 = .ok (.aload_n 0, 1) := by decide +kernel
theorem dX12_ringers_36 : decode cX12_ringers 36 = .ok (.iload_n 1, 1) := by decide +kernel
theorem dX12_ringers_37 : decode cX12_ringers 37 = .ok (.iload_n 2, 1) := by decide +kernel
theorem dX12_ringers_38 : decode cX12_ringers 38 = .ok (.invokevirtual 254, 3) := by decide +kernel
theorem dX12_ringers_41 : decode cX12_ringers 41 = .ok (.ifCond .ne 7, 3) := by decide +kernel
theorem dX12_ringers_44 : decode cX12_ringers 44 = .ok (.iconst 1, 1) := by decide +kernel
theorem dX12_ringers_45 : decode cX12_ringers 45 = .ok (.goto 4, 3) := by decide +kernel
theorem dX12_ringers_48 : decode cX12_ringers 48 = .ok (.iconst 0, 1) := by decide +kernel
theorem dX12_ringers_49 : decode cX12_ringers 49 = .ok (.iconst 2, 1) := by decide +kernel
theorem dX12_ringers_50 : decode cX12_ringers 50 = .ok (.invokevirtual 242, 3) := by decide +kernel
theorem dX12_ringers_53 : decode cX12_ringers 53 = .ok (.ifCond .eq 5, 3) := by decide +kernel
theorem dX12_ringers_56 : decode cX12_ringers 56 = .ok (.iconst 0, 1) := by decide +kernel
theorem dX12_ringers_57 : decode cX12_ringers 57 = .ok (.ireturn, 1) := by decide +kernel
theorem dX12_ringers_58 : decode cX12_ringers 58 = .ok (.iconst (-1), 1) := by decide +kernel
theorem dX12_ringers_59 : decode cX12_ringers 59 = .ok (.istore_n 3, 1) := by decide +kernel
theorem dX12_ringers_60 : decode cX12_ringers 60 = .ok (.iconst 0, 1) := by decide +kernel
theorem dX12_ringers_61 : decode cX12_ringers 61 = .ok (.istore 4, 2) := by decide +kernel
theorem dX12_ringers_63 : decode cX12_ringers 63 = .ok (.iload 4, 2) := by decide +kernel
theorem dX12_ringers_65 : decode cX12_ringers 65 = .ok (.iconst 1, 1) := by decide +kernel
theorem dX12_ringers_66 : decode cX12_ringers 66 = .ok (.aload_n 0, 1) := by decide +kernel
theorem dX12_ringers_67 : decode cX12_ringers 67 = .ok (.invokevirtual 74, 3) := by decide +kernel
theorem dX12_ringers_70 : decode cX12_ringers 70 = .ok (.ishl, 1) := by decide +kernel
theorem dX12_ringers_71 : decode cX12_ringers 71 = .ok (.if_icmp .ge 110, 3) := by decide +kernel
theorem dX12_ringers_74 : decode cX12_ringers 74 = .ok (.iload 4, 2) := by decide +kernel
theorem dX12_ringers_76 : decode cX12_ringers 76 = .ok (.iload_n 1, 1) := by decide +kernel
theorem dX12_ringers_77 : decode cX12_ringers 77 = .ok (.invokestatic 319, 3) := by decide +kernel
theorem dX12_ringers_80 : decode cX12_ringers 80 = .ok (.ifCond .eq 95, 3) := by decide +kernel
theorem dX12_ringers_83 : decode cX12_ringers 83 = .ok (.iload_n 3, 1) := by decide +kernel
theorem dX12_ringers_84 : decode cX12_ringers 84 = .ok (.ifCond .lt 18, 3) := by decide +kernel
theorem dX12_ringers_87 : decode cX12_ringers 87 = .ok (.iload 4, 2) := by decide +kernel
theorem dX12_ringers_89 : decode cX12_ringers 89 = .ok (.invokestatic 89, 3) := by decide +kernel
theorem dX12_ringers_92 : decode cX12_ringers 92 = .ok (.iload_n 3, 1) := by decide +kernel
theorem dX12_ringers_93 : decode cX12_ringers 93 = .ok (.invokestatic 89, 3) := by decide +kernel
theorem dX12_ringers_96 : decode cX12_ringers 96 = .ok (.if_icmp .lt 6, 3) := by decide +kernel
theorem dX12_ringers_99 : decode cX12_ringers 99 = .ok (.goto 76, 3) := by decide +kernel
theorem dX12_ringers_102 : decode cX12_ringers 102 = .ok (.aload_n 0, 1) := by decide +kernel
theorem dX12_ringers_103 : decode cX12_ringers 103 = .ok (.iload_n 1, 1) := by decide +kernel
theorem dX12_ringers_104 : decode cX12_ringers 104 = .ok (.iload_n 2, 1) := by decide +kernel
theorem dX12_ringers_105 : decode cX12_ringers 105 = .ok (.iload 4, 2) := by decide +kernel
theorem dX12_ringers_107 : decode cX12_ringers 107 = .ok (.invokevirtual 329, 3) := by decide +kernel
theorem dX12_ringers_110 : decode cX12_ringers 110 = .ok (.iconst 1, 1) := by decide +kernel
theorem dX12_ringers_111 : decode cX12_ringers 111 = .ok (.istore 5, 2) := by decide +kernel
theorem dX12_ringers_113 : decode cX12_ringers 113 = .ok (.iconst 0, 1) := by decide +kernel
theorem dX12_ringers_114 : decode cX12_ringers 114 = .ok (.istore 6, 2) := by decide +kernel
theorem dX12_ringers_116 : decode cX12_ringers 116 = .ok (.iload 6, 2) := by decide +kernel
theorem dX12_ringers_118 : decode cX12_ringers 118 = .ok (.aload_n 0, 1) := by decide +kernel
theorem dX12_ringers_119 : decode cX12_ringers 119 = .ok (.invokevirtual 74, 3) := by decide +kernel
theorem dX12_ringers_122 : decode cX12_ringers 122 = .ok (.if_icmp .ge 45, 3) := by decide +kernel
theorem dX12_ringers_125 : decode cX12_ringers 125 = .ok (.iload 5, 2) := by decide +kernel
theorem dX12_ringers_127 : decode cX12_ringers 127 = .ok (.ifCond .eq 31, 3) := by decide +kernel
theorem dX12_ringers_130 : decode cX12_ringers 130 = .ok (.aload_n 0, 1) := by decide +kernel
theorem dX12_ringers_131 : decode cX12_ringers 131 = .ok (.iload 6, 2) := by decide +kernel
theorem dX12_ringers_133 : decode cX12_ringers 133 = .ok (.iconst 4, 1) := by decide +kernel
theorem dX12_ringers_134 : decode cX12_ringers 134 = .ok (.invokevirtual 70, 3) := by decide +kernel
theorem dX12_ringers_137 : decode cX12_ringers 137 = .ok (.iconst 1, 1) := by decide +kernel
theorem dX12_ringers_138 : decode cX12_ringers 138 = .ok (.if_icmp .eq 16, 3) := by decide +kernel
theorem dX12_ringers_141 : decode cX12_ringers 141 = .ok (.aload_n 0, 1) := by decide +kernel
theorem dX12_ringers_142 : decode cX12_ringers 142 = .ok (.getfield 45, 3) := by decide +kernel
theorem dX12_ringers_145 : decode cX12_ringers 145 = .ok (.iload 6, 2) := by decide +kernel
theorem dX12_ringers_147 : decode cX12_ringers 147 = .ok (.iaload, 1) := by decide +kernel
theorem dX12_ringers_148 : decode cX12_ringers 148 = .ok (.ldc_w 322, 3) := by decide +kernel
theorem dX12_ringers_151 : decode cX12_ringers 151 = .ok (.if_icmp .ge 7, 3) := by decide +kernel
theorem dX12_ringers_154 : decode cX12_ringers 154 = .ok (.iconst 1, 1) := by decide +kernel
theorem dX12_ringers_155 : decode cX12_ringers 155 = .ok (.goto 4, 3) := by decide +kernel
theorem dX12_ringers_158 : decode cX12_ringers 158 = .ok (.iconst 0, 1) := by decide +kernel
theorem dX12_ringers_159 : decode cX12_ringers 159 = .ok (.istore 5, 2) := by decide +kernel
theorem dX12_ringers_161 : decode cX12_ringers 161 = .ok (.iinc 6 1, 3) := by decide +kernel
theorem dX12_ringers_164 : decode cX12_ringers 164 = .ok (.goto (-48), 3) := by decide +kernel
theorem dX12_ringers_167 : decode cX12_ringers 167 = .ok (.iload 5, 2) := by decide +kernel
theorem dX12_ringers_169 : decode cX12_ringers 169 = .ok (.ifCond .eq 6, 3) := by decide +kernel
theorem dX12_ringers_172 : decode cX12_ringers 172 = .ok (.iload 4, 2) := by decide +kernel
theorem dX12_ringers_174 : decode cX12_ringers 174 = .ok (.istore_n 3, 1) := by decide +kernel
theorem dX12_ringers_175 : decode cX12_ringers 175 = .ok (.iinc 4 1, 3) := by decide +kernel
theorem dX12_ringers_178 : decode cX12_ringers 178 = .ok (.goto (-115), 3) := by decide +kernel
theorem dX12_ringers_181 : decode cX12_ringers 181 = .ok (.iload_n 3, 1) := by decide +kernel
theorem dX12_ringers_182 : decode cX12_ringers 182 = .ok (.ireturn, 1) := by decide +kernel
theorem dX12_factOf_0 : decode cX12_factOf 0 = .ok (.iload_n 1, 1) := by decide +kernel
theorem dX12_factOf_1 : decode cX12_factOf 1 = .ok (.tableswitch 65 0 4 #[35, 37, 44, 51, 62], 35) := by decide +kernel
theorem dX12_factOf_36 : decode cX12_factOf 36 = .ok (.iload_n 3, 1) := by decide +kernel
theorem dX12_factOf_37 : decode cX12_factOf 37 = .ok (.ireturn, 1) := by decide +kernel
theorem dX12_factOf_38 : decode cX12_factOf 38 = .ok (.aload_n 0, 1) := by decide +kernel
theorem dX12_factOf_39 : decode cX12_factOf 39 = .ok (.iload_n 3, 1) := by decide +kernel
theorem dX12_factOf_40 : decode cX12_factOf 40 = .ok (.iconst 3, 1) := by decide +kernel
theorem dX12_factOf_41 : decode cX12_factOf 41 = .ok (.invokevirtual 70, 3) := by decide +kernel
theorem dX12_factOf_44 : decode cX12_factOf 44 = .ok (.ireturn, 1) := by decide +kernel
theorem dX12_factOf_45 : decode cX12_factOf 45 = .ok (.aload_n 0, 1) := by decide +kernel
theorem dX12_factOf_46 : decode cX12_factOf 46 = .ok (.iload 4, 2) := by decide +kernel
theorem dX12_factOf_48 : decode cX12_factOf 48 = .ok (.invokevirtual 266, 3) := by decide +kernel
theorem dX12_factOf_51 : decode cX12_factOf 51 = .ok (.ireturn, 1) := by decide +kernel
theorem dX12_factOf_52 : decode cX12_factOf 52 = .ok (.aload_n 0, 1) := by decide +kernel
theorem dX12_factOf_53 : decode cX12_factOf 53 = .ok (.iload_n 3, 1) := by decide +kernel
theorem dX12_factOf_54 : decode cX12_factOf 54 = .ok (.iload 4, 2) := by decide +kernel
theorem dX12_factOf_56 : decode cX12_factOf 56 = .ok (.invokevirtual 254, 3) := by decide +kernel
theorem dX12_factOf_59 : decode cX12_factOf 59 = .ok (.invokestatic 268, 3) := by decide +kernel
theorem dX12_factOf_62 : decode cX12_factOf 62 = .ok (.ireturn, 1) := by decide +kernel
theorem dX12_factOf_63 : decode cX12_factOf 63 = .ok (.iload 5, 2) := by decide +kernel
theorem dX12_factOf_65 : decode cX12_factOf 65 = .ok (.ireturn, 1) := by decide +kernel
theorem dX12_factOf_66 : decode cX12_factOf 66 = .ok (.iload_n 2, 1) := by decide +kernel
theorem dX12_factOf_67 : decode cX12_factOf 67 = .ok (.ireturn, 1) := by decide +kernel
theorem dX12_holdsLine_0 : decode cX12_holdsLine 0 = .ok (.iconst 0, 1) := by decide +kernel
theorem dX12_holdsLine_1 : decode cX12_holdsLine 1 = .ok (.istore 5, 2) := by decide +kernel
theorem dX12_holdsLine_3 : decode cX12_holdsLine 3 = .ok (.sipush 187, 3) := by decide +kernel
theorem dX12_holdsLine_6 : decode cX12_holdsLine 6 = .ok (.iconst 3, 1) := by decide +kernel
theorem dX12_holdsLine_7 : decode cX12_holdsLine 7 = .ok (.iload_n 1, 1) := by decide +kernel
theorem dX12_holdsLine_8 : decode cX12_holdsLine 8 = .ok (.imul, 1) := by decide +kernel
theorem dX12_holdsLine_9 : decode cX12_holdsLine 9 = .ok (.iadd, 1) := by decide +kernel
theorem dX12_holdsLine_10 : decode cX12_holdsLine 10 = .ok (.istore 6, 2) := by decide +kernel
theorem dX12_holdsLine_12 : decode cX12_holdsLine 12 = .ok (.aload_n 0, 1) := by decide +kernel
theorem dX12_holdsLine_13 : decode cX12_holdsLine 13 = .ok (.getfield 13, 3) := by decide +kernel
theorem dX12_holdsLine_16 : decode cX12_holdsLine 16 = .ok (.iload 6, 2) := by decide +kernel
theorem dX12_holdsLine_18 : decode cX12_holdsLine 18 = .ok (.iconst 1, 1) := by decide +kernel
theorem dX12_holdsLine_19 : decode cX12_holdsLine 19 = .ok (.iadd, 1) := by decide +kernel
theorem dX12_holdsLine_20 : decode cX12_holdsLine 20 = .ok (.iaload, 1) := by decide +kernel
theorem dX12_holdsLine_21 : decode cX12_holdsLine 21 = .ok (.istore 7, 2) := by decide +kernel
theorem dX12_holdsLine_23 : decode cX12_holdsLine 23 = .ok (.iload 7, 2) := by decide +kernel
theorem dX12_holdsLine_25 : decode cX12_holdsLine 25 = .ok (.aload_n 0, 1) := by decide +kernel
theorem dX12_holdsLine_26 : decode cX12_holdsLine 26 = .ok (.getfield 13, 3) := by decide +kernel
theorem dX12_holdsLine_29 : decode cX12_holdsLine 29 = .ok (.iload 6, 2) := by decide +kernel
theorem dX12_holdsLine_31 : decode cX12_holdsLine 31 = .ok (.iconst 2, 1) := by decide +kernel
theorem dX12_holdsLine_32 : decode cX12_holdsLine 32 = .ok (.iadd, 1) := by decide +kernel
theorem dX12_holdsLine_33 : decode cX12_holdsLine 33 = .ok (.iaload, 1) := by decide +kernel
theorem dX12_holdsLine_34 : decode cX12_holdsLine 34 = .ok (.if_icmp .ge 238, 3) := by decide +kernel
theorem dX12_holdsLine_37 : decode cX12_holdsLine 37 = .ok (.aload_n 0, 1) := by decide +kernel
theorem dX12_holdsLine_38 : decode cX12_holdsLine 38 = .ok (.getfield 13, 3) := by decide +kernel
theorem dX12_holdsLine_41 : decode cX12_holdsLine 41 = .ok (.sipush 223, 3) := by decide +kernel
theorem dX12_holdsLine_44 : decode cX12_holdsLine 44 = .ok (.iconst 2, 1) := by decide +kernel
theorem dX12_holdsLine_45 : decode cX12_holdsLine 45 = .ok (.iload 7, 2) := by decide +kernel
theorem dX12_holdsLine_47 : decode cX12_holdsLine 47 = .ok (.imul, 1) := by decide +kernel
theorem dX12_holdsLine_48 : decode cX12_holdsLine 48 = .ok (.iadd, 1) := by decide +kernel
theorem dX12_holdsLine_49 : decode cX12_holdsLine 49 = .ok (.iaload, 1) := by decide +kernel
theorem dX12_holdsLine_50 : decode cX12_holdsLine 50 = .ok (.istore 8, 2) := by decide +kernel
theorem dX12_holdsLine_52 : decode cX12_holdsLine 52 = .ok (.iload 8, 2) := by decide +kernel
theorem dX12_holdsLine_54 : decode cX12_holdsLine 54 = .ok (.iconst 5, 1) := by decide +kernel
theorem dX12_holdsLine_55 : decode cX12_holdsLine 55 = .ok (.if_icmp .gt 41, 3) := by decide +kernel
theorem dX12_holdsLine_58 : decode cX12_holdsLine 58 = .ok (.aload_n 0, 1) := by decide +kernel
theorem dX12_holdsLine_59 : decode cX12_holdsLine 59 = .ok (.getfield 48, 3) := by decide +kernel
theorem dX12_holdsLine_62 : decode cX12_holdsLine 62 = .ok (.iload 5, 2) := by decide +kernel
theorem dX12_holdsLine_64 : decode cX12_holdsLine 64 = .ok (.aload_n 0, 1) := by decide +kernel
theorem dX12_holdsLine_65 : decode cX12_holdsLine 65 = .ok (.iload 8, 2) := by decide +kernel
theorem dX12_holdsLine_67 : decode cX12_holdsLine 67 = .ok (.aload_n 0, 1) := by decide +kernel
theorem dX12_holdsLine_68 : decode cX12_holdsLine 68 = .ok (.getfield 13, 3) := by decide +kernel
theorem dX12_holdsLine_71 : decode cX12_holdsLine 71 = .ok (.sipush 223, 3) := by decide +kernel
theorem dX12_holdsLine_74 : decode cX12_holdsLine 74 = .ok (.iconst 2, 1) := by decide +kernel
theorem dX12_holdsLine_75 : decode cX12_holdsLine 75 = .ok (.iload 7, 2) := by decide +kernel
theorem dX12_holdsLine_77 : decode cX12_holdsLine 77 = .ok (.imul, 1) := by decide +kernel
theorem dX12_holdsLine_78 : decode cX12_holdsLine 78 = .ok (.iadd, 1) := by decide +kernel
theorem dX12_holdsLine_79 : decode cX12_holdsLine 79 = .ok (.iconst 1, 1) := by decide +kernel
theorem dX12_holdsLine_80 : decode cX12_holdsLine 80 = .ok (.iadd, 1) := by decide +kernel
theorem dX12_holdsLine_81 : decode cX12_holdsLine 81 = .ok (.iaload, 1) := by decide +kernel
theorem dX12_holdsLine_82 : decode cX12_holdsLine 82 = .ok (.iload_n 2, 1) := by decide +kernel
theorem dX12_holdsLine_83 : decode cX12_holdsLine 83 = .ok (.iload_n 3, 1) := by decide +kernel
theorem dX12_holdsLine_84 : decode cX12_holdsLine 84 = .ok (.iload 4, 2) := by decide +kernel
theorem dX12_holdsLine_86 : decode cX12_holdsLine 86 = .ok (.invokevirtual 332, 3) := by decide +kernel
theorem dX12_holdsLine_89 : decode cX12_holdsLine 89 = .ok (.iastore, 1) := by decide +kernel
theorem dX12_holdsLine_90 : decode cX12_holdsLine 90 = .ok (.iinc 5 1, 3) := by decide +kernel
theorem dX12_holdsLine_93 : decode cX12_holdsLine 93 = .ok (.goto 173, 3) := by decide +kernel
theorem dX12_holdsLine_96 : decode cX12_holdsLine 96 = .ok (.iload 8, 2) := by decide +kernel
theorem dX12_holdsLine_98 : decode cX12_holdsLine 98 = .ok (.bipush 9, 2) := by decide +kernel
theorem dX12_holdsLine_100 : decode cX12_holdsLine 100 = .ok (.if_icmp .ne 26, 3) := by decide +kernel
theorem dX12_holdsLine_103 : decode cX12_holdsLine 103 = .ok (.aload_n 0, 1) := by decide +kernel
theorem dX12_holdsLine_104 : decode cX12_holdsLine 104 = .ok (.getfield 48, 3) := by decide +kernel
theorem dX12_holdsLine_107 : decode cX12_holdsLine 107 = .ok (.iload 5, 2) := by decide +kernel
theorem dX12_holdsLine_109 : decode cX12_holdsLine 109 = .ok (.iconst 1, 1) := by decide +kernel
theorem dX12_holdsLine_110 : decode cX12_holdsLine 110 = .ok (.isub, 1) := by decide +kernel
theorem dX12_holdsLine_111 : decode cX12_holdsLine 111 = .ok (.iconst 1, 1) := by decide +kernel
theorem dX12_holdsLine_112 : decode cX12_holdsLine 112 = .ok (.aload_n 0, 1) := by decide +kernel
theorem dX12_holdsLine_113 : decode cX12_holdsLine 113 = .ok (.getfield 48, 3) := by decide +kernel
theorem dX12_holdsLine_116 : decode cX12_holdsLine 116 = .ok (.iload 5, 2) := by decide +kernel
theorem dX12_holdsLine_118 : decode cX12_holdsLine 118 = .ok (.iconst 1, 1) := by decide +kernel
theorem dX12_holdsLine_119 : decode cX12_holdsLine 119 = .ok (.isub, 1) := by decide +kernel
theorem dX12_holdsLine_120 : decode cX12_holdsLine 120 = .ok (.iaload, 1) := by decide +kernel
theorem dX12_holdsLine_121 : decode cX12_holdsLine 121 = .ok (.isub, 1) := by decide +kernel
theorem dX12_holdsLine_122 : decode cX12_holdsLine 122 = .ok (.iastore, 1) := by decide +kernel
theorem dX12_holdsLine_123 : decode cX12_holdsLine 123 = .ok (.goto 143, 3) := by decide +kernel
theorem dX12_holdsLine_126 : decode cX12_holdsLine 126 = .ok (.iinc 5 (-1), 3) := by decide +kernel
theorem dX12_holdsLine_129 : decode cX12_holdsLine 129 = .ok (.aload_n 0, 1) := by decide +kernel
theorem dX12_holdsLine_130 : decode cX12_holdsLine 130 = .ok (.getfield 48, 3) := by decide +kernel
theorem dX12_holdsLine_133 : decode cX12_holdsLine 133 = .ok (.iload 5, 2) := by decide +kernel
theorem dX12_holdsLine_135 : decode cX12_holdsLine 135 = .ok (.iconst 1, 1) := by decide +kernel
theorem dX12_holdsLine_136 : decode cX12_holdsLine 136 = .ok (.isub, 1) := by decide +kernel
theorem dX12_holdsLine_137 : decode cX12_holdsLine 137 = .ok (.iaload, 1) := by decide +kernel
theorem dX12_holdsLine_138 : decode cX12_holdsLine 138 = .ok (.istore 9, 2) := by decide +kernel
theorem dX12_holdsLine_140 : decode cX12_holdsLine 140 = .ok (.aload_n 0, 1) := by decide +kernel
theorem dX12_holdsLine_141 : decode cX12_holdsLine 141 = .ok (.getfield 48, 3) := by decide +kernel
theorem dX12_holdsLine_144 : decode cX12_holdsLine 144 = .ok (.iload 5, 2) := by decide +kernel
theorem dX12_holdsLine_146 : decode cX12_holdsLine 146 = .ok (.iaload, 1) := by decide +kernel
theorem dX12_holdsLine_147 : decode cX12_holdsLine 147 = .ok (.istore 10, 2) := by decide +kernel
theorem dX12_holdsLine_149 : decode cX12_holdsLine 149 = .ok (.iload 8, 2) := by decide +kernel
theorem dX12_holdsLine_151 : decode cX12_holdsLine 151 = .ok (.bipush 7, 2) := by decide +kernel
theorem dX12_holdsLine_153 : decode cX12_holdsLine 153 = .ok (.if_icmp .ne 18, 3) := by decide +kernel
theorem dX12_holdsLine_156 : decode cX12_holdsLine 156 = .ok (.iload 9, 2) := by decide +kernel
theorem dX12_holdsLine_158 : decode cX12_holdsLine 158 = .ok (.iload 10, 2) := by decide +kernel
theorem dX12_holdsLine_160 : decode cX12_holdsLine 160 = .ok (.if_icmp .ge 7, 3) := by decide +kernel
theorem dX12_holdsLine_163 : decode cX12_holdsLine 163 = .ok (.iconst 1, 1) := by decide +kernel
theorem dX12_holdsLine_164 : decode cX12_holdsLine 164 = .ok (.goto 66, 3) := by decide +kernel
theorem dX12_holdsLine_167 : decode cX12_holdsLine 167 = .ok (.iconst 0, 1) := by decide +kernel
theorem dX12_holdsLine_168 : decode cX12_holdsLine 168 = .ok (.goto 62, 3) := by decide +kernel
theorem dX12_holdsLine_171 : decode cX12_holdsLine 171 = .ok (.iload 8, 2) := by decide +kernel
theorem dX12_holdsLine_173 : decode cX12_holdsLine 173 = .ok (.bipush 8, 2) := by decide +kernel
theorem dX12_holdsLine_175 : decode cX12_holdsLine 175 = .ok (.if_icmp .ne 18, 3) := by decide +kernel
theorem dX12_holdsLine_178 : decode cX12_holdsLine 178 = .ok (.iload 9, 2) := by decide +kernel
theorem dX12_holdsLine_180 : decode cX12_holdsLine 180 = .ok (.iload 10, 2) := by decide +kernel
theorem dX12_holdsLine_182 : decode cX12_holdsLine 182 = .ok (.if_icmp .le 7, 3) := by decide +kernel
theorem dX12_holdsLine_185 : decode cX12_holdsLine 185 = .ok (.iconst 1, 1) := by decide +kernel
theorem dX12_holdsLine_186 : decode cX12_holdsLine 186 = .ok (.goto 44, 3) := by decide +kernel
theorem dX12_holdsLine_189 : decode cX12_holdsLine 189 = .ok (.iconst 0, 1) := by decide +kernel
theorem dX12_holdsLine_190 : decode cX12_holdsLine 190 = .ok (.goto 40, 3) := by decide +kernel
theorem dX12_holdsLine_193 : decode cX12_holdsLine 193 = .ok (.iload 8, 2) := by decide +kernel
theorem dX12_holdsLine_195 : decode cX12_holdsLine 195 = .ok (.bipush 10, 2) := by decide +kernel
theorem dX12_holdsLine_197 : decode cX12_holdsLine 197 = .ok (.if_icmp .ne 20, 3) := by decide +kernel
theorem dX12_holdsLine_200 : decode cX12_holdsLine 200 = .ok (.iload 9, 2) := by decide +kernel
theorem dX12_holdsLine_202 : decode cX12_holdsLine 202 = .ok (.iload 10, 2) := by decide +kernel
theorem dX12_holdsLine_204 : decode cX12_holdsLine 204 = .ok (.iadd, 1) := by decide +kernel
theorem dX12_holdsLine_205 : decode cX12_holdsLine 205 = .ok (.iconst 2, 1) := by decide +kernel
theorem dX12_holdsLine_206 : decode cX12_holdsLine 206 = .ok (.if_icmp .ne 7, 3) := by decide +kernel
theorem dX12_holdsLine_209 : decode cX12_holdsLine 209 = .ok (.iconst 1, 1) := by decide +kernel
theorem dX12_holdsLine_210 : decode cX12_holdsLine 210 = .ok (.goto 20, 3) := by decide +kernel
theorem dX12_holdsLine_213 : decode cX12_holdsLine 213 = .ok (.iconst 0, 1) := by decide +kernel
theorem dX12_holdsLine_214 : decode cX12_holdsLine 214 = .ok (.goto 16, 3) := by decide +kernel
theorem dX12_holdsLine_217 : decode cX12_holdsLine 217 = .ok (.iload 9, 2) := by decide +kernel
theorem dX12_holdsLine_219 : decode cX12_holdsLine 219 = .ok (.iload 10, 2) := by decide +kernel
theorem dX12_holdsLine_221 : decode cX12_holdsLine 221 = .ok (.iadd, 1) := by decide +kernel
theorem dX12_holdsLine_222 : decode cX12_holdsLine 222 = .ok (.ifCond .le 7, 3) := by decide +kernel
theorem dX12_holdsLine_225 : decode cX12_holdsLine 225 = .ok (.iconst 1, 1) := by decide +kernel
theorem dX12_holdsLine_226 : decode cX12_holdsLine 226 = .ok (.goto 4, 3) := by decide +kernel
theorem dX12_holdsLine_229 : decode cX12_holdsLine 229 = .ok (.iconst 0, 1) := by decide +kernel
theorem dX12_holdsLine_230 : decode cX12_holdsLine 230 = .ok (.istore 11, 2) := by decide +kernel
theorem dX12_holdsLine_232 : decode cX12_holdsLine 232 = .ok (.aload_n 0, 1) := by decide +kernel
theorem dX12_holdsLine_233 : decode cX12_holdsLine 233 = .ok (.getfield 48, 3) := by decide +kernel
theorem dX12_holdsLine_236 : decode cX12_holdsLine 236 = .ok (.iload 5, 2) := by decide +kernel
theorem dX12_holdsLine_238 : decode cX12_holdsLine 238 = .ok (.iconst 1, 1) := by decide +kernel
theorem dX12_holdsLine_239 : decode cX12_holdsLine 239 = .ok (.isub, 1) := by decide +kernel
theorem dX12_holdsLine_240 : decode cX12_holdsLine 240 = .ok (.iload 8, 2) := by decide +kernel
theorem dX12_holdsLine_242 : decode cX12_holdsLine 242 = .ok (.bipush 6, 2) := by decide +kernel
theorem dX12_holdsLine_244 : decode cX12_holdsLine 244 = .ok (.if_icmp .ne 11, 3) := by decide +kernel
theorem dX12_holdsLine_247 : decode cX12_holdsLine 247 = .ok (.iload 9, 2) := by decide +kernel
theorem dX12_holdsLine_249 : decode cX12_holdsLine 249 = .ok (.iload 10, 2) := by decide +kernel
theorem dX12_holdsLine_251 : decode cX12_holdsLine 251 = .ok (.iadd, 1) := by decide +kernel
theorem dX12_holdsLine_252 : decode cX12_holdsLine 252 = .ok (.goto 13, 3) := by decide +kernel
theorem dX12_holdsLine_255 : decode cX12_holdsLine 255 = .ok (.iload 11, 2) := by decide +kernel
theorem dX12_holdsLine_257 : decode cX12_holdsLine 257 = .ok (.ifCond .eq 7, 3) := by decide +kernel
theorem dX12_holdsLine_260 : decode cX12_holdsLine 260 = .ok (.iconst 1, 1) := by decide +kernel
theorem dX12_holdsLine_261 : decode cX12_holdsLine 261 = .ok (.goto 4, 3) := by decide +kernel
theorem dX12_holdsLine_264 : decode cX12_holdsLine 264 = .ok (.iconst 0, 1) := by decide +kernel
theorem dX12_holdsLine_265 : decode cX12_holdsLine 265 = .ok (.iastore, 1) := by decide +kernel
theorem dX12_holdsLine_266 : decode cX12_holdsLine 266 = .ok (.iinc 7 1, 3) := by decide +kernel
theorem dX12_holdsLine_269 : decode cX12_holdsLine 269 = .ok (.goto (-246), 3) := by decide +kernel
theorem dX12_holdsLine_272 : decode cX12_holdsLine 272 = .ok (.iload 5, 2) := by decide +kernel
theorem dX12_holdsLine_274 : decode cX12_holdsLine 274 = .ok (.ifCond .eq 13, 3) := by decide +kernel
theorem dX12_holdsLine_277 : decode cX12_holdsLine 277 = .ok (.aload_n 0, 1) := by decide +kernel
theorem dX12_holdsLine_278 : decode cX12_holdsLine 278 = .ok (.getfield 48, 3) := by decide +kernel
theorem dX12_holdsLine_281 : decode cX12_holdsLine 281 = .ok (.iconst 0, 1) := by decide +kernel
theorem dX12_holdsLine_282 : decode cX12_holdsLine 282 = .ok (.iaload, 1) := by decide +kernel
theorem dX12_holdsLine_283 : decode cX12_holdsLine 283 = .ok (.iconst 1, 1) := by decide +kernel
theorem dX12_holdsLine_284 : decode cX12_holdsLine 284 = .ok (.if_icmp .ne 7, 3) := by decide +kernel
theorem dX12_holdsLine_287 : decode cX12_holdsLine 287 = .ok (.iconst 1, 1) := by decide +kernel
theorem dX12_holdsLine_288 : decode cX12_holdsLine 288 = .ok (.goto 4, 3) := by decide +kernel
theorem dX12_holdsLine_291 : decode cX12_holdsLine 291 = .ok (.iconst 0, 1) := by decide +kernel
theorem dX12_holdsLine_292 : decode cX12_holdsLine 292 = .ok (.ireturn, 1) := by decide +kernel
theorem dX12_turn_0 : decode cX12_turn 0 = .ok (.iconst 0, 1) := by decide +kernel
theorem dX12_turn_1 : decode cX12_turn 1 = .ok (.istore 4, 2) := by decide +kernel
theorem dX12_turn_3 : decode cX12_turn 3 = .ok (.iconst 0, 1) := by decide +kernel
theorem dX12_turn_4 : decode cX12_turn 4 = .ok (.istore 5, 2) := by decide +kernel
theorem dX12_turn_6 : decode cX12_turn 6 = .ok (.aload_n 0, 1) := by decide +kernel
theorem dX12_turn_7 : decode cX12_turn 7 = .ok (.getfield 13, 3) := by decide +kernel
theorem dX12_turn_10 : decode cX12_turn 10 = .ok (.iconst 3, 1) := by decide +kernel
theorem dX12_turn_11 : decode cX12_turn 11 = .ok (.iaload, 1) := by decide +kernel
theorem dX12_turn_12 : decode cX12_turn 12 = .ok (.iconst 1, 1) := by decide +kernel
theorem dX12_turn_13 : decode cX12_turn 13 = .ok (.if_icmp .ne 56, 3) := by decide +kernel
theorem dX12_turn_16 : decode cX12_turn 16 = .ok (.iload 5, 2) := by decide +kernel
theorem dX12_turn_18 : decode cX12_turn 18 = .ok (.aload_n 0, 1) := by decide +kernel
theorem dX12_turn_19 : decode cX12_turn 19 = .ok (.getfield 13, 3) := by decide +kernel
theorem dX12_turn_22 : decode cX12_turn 22 = .ok (.sipush 186, 3) := by decide +kernel
theorem dX12_turn_25 : decode cX12_turn 25 = .ok (.iaload, 1) := by decide +kernel
theorem dX12_turn_26 : decode cX12_turn 26 = .ok (.if_icmp .ge 43, 3) := by decide +kernel
theorem dX12_turn_29 : decode cX12_turn 29 = .ok (.iload 4, 2) := by decide +kernel
theorem dX12_turn_31 : decode cX12_turn 31 = .ok (.aload_n 0, 1) := by decide +kernel
theorem dX12_turn_32 : decode cX12_turn 32 = .ok (.iload 5, 2) := by decide +kernel
theorem dX12_turn_34 : decode cX12_turn 34 = .ok (.iload_n 1, 1) := by decide +kernel
theorem dX12_turn_35 : decode cX12_turn 35 = .ok (.iload_n 2, 1) := by decide +kernel
theorem dX12_turn_36 : decode cX12_turn 36 = .ok (.iload_n 3, 1) := by decide +kernel
theorem dX12_turn_37 : decode cX12_turn 37 = .ok (.invokevirtual 336, 3) := by decide +kernel
theorem dX12_turn_40 : decode cX12_turn 40 = .ok (.ifCond .eq 19, 3) := by decide +kernel
theorem dX12_turn_43 : decode cX12_turn 43 = .ok (.aload_n 0, 1) := by decide +kernel
theorem dX12_turn_44 : decode cX12_turn 44 = .ok (.getfield 13, 3) := by decide +kernel
theorem dX12_turn_47 : decode cX12_turn 47 = .ok (.sipush 187, 3) := by decide +kernel
theorem dX12_turn_50 : decode cX12_turn 50 = .ok (.iconst 3, 1) := by decide +kernel
theorem dX12_turn_51 : decode cX12_turn 51 = .ok (.iload 5, 2) := by decide +kernel
theorem dX12_turn_53 : decode cX12_turn 53 = .ok (.imul, 1) := by decide +kernel
theorem dX12_turn_54 : decode cX12_turn 54 = .ok (.iadd, 1) := by decide +kernel
theorem dX12_turn_55 : decode cX12_turn 55 = .ok (.iaload, 1) := by decide +kernel
theorem dX12_turn_56 : decode cX12_turn 56 = .ok (.goto 4, 3) := by decide +kernel
theorem dX12_turn_59 : decode cX12_turn 59 = .ok (.iconst 0, 1) := by decide +kernel
theorem dX12_turn_60 : decode cX12_turn 60 = .ok (.iadd, 1) := by decide +kernel
theorem dX12_turn_61 : decode cX12_turn 61 = .ok (.istore 4, 2) := by decide +kernel
theorem dX12_turn_63 : decode cX12_turn 63 = .ok (.iinc 5 1, 3) := by decide +kernel
theorem dX12_turn_66 : decode cX12_turn 66 = .ok (.goto (-60), 3) := by decide +kernel
theorem dX12_turn_69 : decode cX12_turn 69 = .ok (.iload 4, 2) := by decide +kernel
theorem dX12_turn_71 : decode cX12_turn 71 = .ok (.ireturn, 1) := by decide +kernel
theorem dX12_isStill_0 : decode cX12_isStill 0 = .ok (.iconst 1, 1) := by decide +kernel
theorem dX12_isStill_1 : decode cX12_isStill 1 = .ok (.istore 4, 2) := by decide +kernel
theorem dX12_isStill_3 : decode cX12_isStill 3 = .ok (.iconst 0, 1) := by decide +kernel
theorem dX12_isStill_4 : decode cX12_isStill 4 = .ok (.istore 5, 2) := by decide +kernel
theorem dX12_isStill_6 : decode cX12_isStill 6 = .ok (.iload 5, 2) := by decide +kernel
theorem dX12_isStill_8 : decode cX12_isStill 8 = .ok (.aload_n 0, 1) := by decide +kernel
theorem dX12_isStill_9 : decode cX12_isStill 9 = .ok (.invokevirtual 74, 3) := by decide +kernel
theorem dX12_isStill_12 : decode cX12_isStill 12 = .ok (.if_icmp .ge 63, 3) := by decide +kernel
theorem dX12_isStill_15 : decode cX12_isStill 15 = .ok (.iload 4, 2) := by decide +kernel
theorem dX12_isStill_17 : decode cX12_isStill 17 = .ok (.ifCond .eq 49, 3) := by decide +kernel
theorem dX12_isStill_20 : decode cX12_isStill 20 = .ok (.aload_n 0, 1) := by decide +kernel
theorem dX12_isStill_21 : decode cX12_isStill 21 = .ok (.getfield 51, 3) := by decide +kernel
theorem dX12_isStill_24 : decode cX12_isStill 24 = .ok (.iload 5, 2) := by decide +kernel
theorem dX12_isStill_26 : decode cX12_isStill 26 = .ok (.iaload, 1) := by decide +kernel
theorem dX12_isStill_27 : decode cX12_isStill 27 = .ok (.ifCond .lt 35, 3) := by decide +kernel
theorem dX12_isStill_30 : decode cX12_isStill 30 = .ok (.iload_n 3, 1) := by decide +kernel
theorem dX12_isStill_31 : decode cX12_isStill 31 = .ok (.aload_n 0, 1) := by decide +kernel
theorem dX12_isStill_32 : decode cX12_isStill 32 = .ok (.getfield 51, 3) := by decide +kernel
theorem dX12_isStill_35 : decode cX12_isStill 35 = .ok (.iload 5, 2) := by decide +kernel
theorem dX12_isStill_37 : decode cX12_isStill 37 = .ok (.iaload, 1) := by decide +kernel
theorem dX12_isStill_38 : decode cX12_isStill 38 = .ok (.aload_n 0, 1) := by decide +kernel
theorem dX12_isStill_39 : decode cX12_isStill 39 = .ok (.iload 5, 2) := by decide +kernel
theorem dX12_isStill_41 : decode cX12_isStill 41 = .ok (.iload_n 2, 1) := by decide +kernel
theorem dX12_isStill_42 : decode cX12_isStill 42 = .ok (.invokevirtual 254, 3) := by decide +kernel
theorem dX12_isStill_45 : decode cX12_isStill 45 = .ok (.invokestatic 268, 3) := by decide +kernel
theorem dX12_isStill_48 : decode cX12_isStill 48 = .ok (.iadd, 1) := by decide +kernel
theorem dX12_isStill_49 : decode cX12_isStill 49 = .ok (.if_icmp .ge 13, 3) := by decide +kernel
theorem dX12_isStill_52 : decode cX12_isStill 52 = .ok (.aload_n 0, 1) := by decide +kernel
theorem dX12_isStill_53 : decode cX12_isStill 53 = .ok (.iload 5, 2) := by decide +kernel
theorem dX12_isStill_55 : decode cX12_isStill 55 = .ok (.iload_n 1, 1) := by decide +kernel
theorem dX12_isStill_56 : decode cX12_isStill 56 = .ok (.invokevirtual 274, 3) := by decide +kernel
theorem dX12_isStill_59 : decode cX12_isStill 59 = .ok (.ifCond .ne 7, 3) := by decide +kernel
theorem dX12_isStill_62 : decode cX12_isStill 62 = .ok (.iconst 1, 1) := by decide +kernel
theorem dX12_isStill_63 : decode cX12_isStill 63 = .ok (.goto 4, 3) := by decide +kernel
theorem dX12_isStill_66 : decode cX12_isStill 66 = .ok (.iconst 0, 1) := by decide +kernel
theorem dX12_isStill_67 : decode cX12_isStill 67 = .ok (.istore 4, 2) := by decide +kernel
theorem dX12_isStill_69 : decode cX12_isStill 69 = .ok (.iinc 5 1, 3) := by decide +kernel
theorem dX12_isStill_72 : decode cX12_isStill 72 = .ok (.goto (-66), 3) := by decide +kernel
theorem dX12_isStill_75 : decode cX12_isStill 75 = .ok (.iload 4, 2) := by decide +kernel
theorem dX12_isStill_77 : decode cX12_isStill 77 = .ok (.ireturn, 1) := by decide +kernel
theorem dX12_turnOf_0 : decode cX12_turnOf 0 = .ok (.iconst (-1), 1) := by decide +kernel
theorem dX12_turnOf_1 : decode cX12_turnOf 1 = .ok (.istore 5, 2) := by decide +kernel
theorem dX12_turnOf_3 : decode cX12_turnOf 3 = .ok (.iconst 0, 1) := by decide +kernel
theorem dX12_turnOf_4 : decode cX12_turnOf 4 = .ok (.istore 6, 2) := by decide +kernel
theorem dX12_turnOf_6 : decode cX12_turnOf 6 = .ok (.iload 6, 2) := by decide +kernel
theorem dX12_turnOf_8 : decode cX12_turnOf 8 = .ok (.aload_n 0, 1) := by decide +kernel
theorem dX12_turnOf_9 : decode cX12_turnOf 9 = .ok (.invokevirtual 74, 3) := by decide +kernel
theorem dX12_turnOf_12 : decode cX12_turnOf 12 = .ok (.if_icmp .ge 91, 3) := by decide +kernel
theorem dX12_turnOf_15 : decode cX12_turnOf 15 = .ok (.iload_n 1, 1) := by decide +kernel
theorem dX12_turnOf_16 : decode cX12_turnOf 16 = .ok (.iload 6, 2) := by decide +kernel
theorem dX12_turnOf_18 : decode cX12_turnOf 18 = .ok (.invokestatic 319, 3) := by decide +kernel
theorem dX12_turnOf_21 : decode cX12_turnOf 21 = .ok (.ifCond .ne 6, 3) := by decide +kernel
theorem dX12_turnOf_24 : decode cX12_turnOf 24 = .ok (.goto 73, 3) := by decide +kernel
theorem dX12_turnOf_27 : decode cX12_turnOf 27 = .ok (.iload 5, 2) := by decide +kernel
theorem dX12_turnOf_29 : decode cX12_turnOf 29 = .ok (.ifCond .lt 47, 3) := by decide +kernel
theorem dX12_turnOf_32 : decode cX12_turnOf 32 = .ok (.iload 4, 2) := by decide +kernel
theorem dX12_turnOf_34 : decode cX12_turnOf 34 = .ok (.ifCond .eq 23, 3) := by decide +kernel
theorem dX12_turnOf_37 : decode cX12_turnOf 37 = .ok (.aload_n 0, 1) := by decide +kernel
theorem dX12_turnOf_38 : decode cX12_turnOf 38 = .ok (.getfield 54, 3) := by decide +kernel
theorem dX12_turnOf_41 : decode cX12_turnOf 41 = .ok (.iload 6, 2) := by decide +kernel
theorem dX12_turnOf_43 : decode cX12_turnOf 43 = .ok (.iaload, 1) := by decide +kernel
theorem dX12_turnOf_44 : decode cX12_turnOf 44 = .ok (.aload_n 0, 1) := by decide +kernel
theorem dX12_turnOf_45 : decode cX12_turnOf 45 = .ok (.getfield 54, 3) := by decide +kernel
theorem dX12_turnOf_48 : decode cX12_turnOf 48 = .ok (.iload 5, 2) := by decide +kernel
theorem dX12_turnOf_50 : decode cX12_turnOf 50 = .ok (.iaload, 1) := by decide +kernel
theorem dX12_turnOf_51 : decode cX12_turnOf 51 = .ok (.if_icmp .ge 29, 3) := by decide +kernel
theorem dX12_turnOf_54 : decode cX12_turnOf 54 = .ok (.goto 22, 3) := by decide +kernel
theorem dX12_turnOf_57 : decode cX12_turnOf 57 = .ok (.aload_n 0, 1) := by decide +kernel
theorem dX12_turnOf_58 : decode cX12_turnOf 58 = .ok (.iload 6, 2) := by decide +kernel
theorem dX12_turnOf_60 : decode cX12_turnOf 60 = .ok (.iload_n 2, 1) := by decide +kernel
theorem dX12_turnOf_61 : decode cX12_turnOf 61 = .ok (.iload_n 3, 1) := by decide +kernel
theorem dX12_turnOf_62 : decode cX12_turnOf 62 = .ok (.invokevirtual 339, 3) := by decide +kernel
theorem dX12_turnOf_65 : decode cX12_turnOf 65 = .ok (.aload_n 0, 1) := by decide +kernel
theorem dX12_turnOf_66 : decode cX12_turnOf 66 = .ok (.iload 5, 2) := by decide +kernel
theorem dX12_turnOf_68 : decode cX12_turnOf 68 = .ok (.iload_n 2, 1) := by decide +kernel
theorem dX12_turnOf_69 : decode cX12_turnOf 69 = .ok (.iload_n 3, 1) := by decide +kernel
theorem dX12_turnOf_70 : decode cX12_turnOf 70 = .ok (.invokevirtual 339, 3) := by decide +kernel
theorem dX12_turnOf_73 : decode cX12_turnOf 73 = .ok (.if_icmp .le 7, 3) := by decide +kernel
theorem dX12_turnOf_76 : decode cX12_turnOf 76 = .ok (.iconst 1, 1) := by decide +kernel
theorem dX12_turnOf_77 : decode cX12_turnOf 77 = .ok (.goto 4, 3) := by decide +kernel
theorem dX12_turnOf_80 : decode cX12_turnOf 80 = .ok (.iconst 0, 1) := by decide +kernel
theorem dX12_turnOf_81 : decode cX12_turnOf 81 = .ok (.istore 7, 2) := by decide +kernel
theorem dX12_turnOf_83 : decode cX12_turnOf 83 = .ok (.iload 7, 2) := by decide +kernel
theorem dX12_turnOf_85 : decode cX12_turnOf 85 = .ok (.ifCond .eq 8, 3) := by decide +kernel
theorem dX12_turnOf_88 : decode cX12_turnOf 88 = .ok (.iload 6, 2) := by decide +kernel
theorem dX12_turnOf_90 : decode cX12_turnOf 90 = .ok (.goto 5, 3) := by decide +kernel
theorem dX12_turnOf_93 : decode cX12_turnOf 93 = .ok (.iload 5, 2) := by decide +kernel
theorem dX12_turnOf_95 : decode cX12_turnOf 95 = .ok (.istore 5, 2) := by decide +kernel
theorem dX12_turnOf_97 : decode cX12_turnOf 97 = .ok (.iinc 6 1, 3) := by decide +kernel
theorem dX12_turnOf_100 : decode cX12_turnOf 100 = .ok (.goto (-94), 3) := by decide +kernel
theorem dX12_turnOf_103 : decode cX12_turnOf 103 = .ok (.iload 5, 2) := by decide +kernel
theorem dX12_turnOf_105 : decode cX12_turnOf 105 = .ok (.ireturn, 1) := by decide +kernel
theorem dX12_ringing_0 : decode cX12_ringing 0 = .ok (.iconst 0, 1) := by decide +kernel
theorem dX12_ringing_1 : decode cX12_ringing 1 = .ok (.istore_n 2, 1) := by decide +kernel
theorem dX12_ringing_2 : decode cX12_ringing 2 = .ok (.iconst 0, 1) := by decide +kernel
theorem dX12_ringing_3 : decode cX12_ringing 3 = .ok (.istore_n 3, 1) := by decide +kernel
theorem dX12_ringing_4 : decode cX12_ringing 4 = .ok (.iload_n 3, 1) := by decide +kernel
theorem dX12_ringing_5 : decode cX12_ringing 5 = .ok (.aload_n 0, 1) := by decide +kernel
theorem dX12_ringing_6 : decode cX12_ringing 6 = .ok (.invokevirtual 74, 3) := by decide +kernel
theorem dX12_ringing_9 : decode cX12_ringing 9 = .ok (.if_icmp .ge 28, 3) := by decide +kernel
theorem dX12_ringing_12 : decode cX12_ringing 12 = .ok (.iload_n 2, 1) := by decide +kernel
theorem dX12_ringing_13 : decode cX12_ringing 13 = .ok (.aload_n 0, 1) := by decide +kernel
theorem dX12_ringing_14 : decode cX12_ringing 14 = .ok (.iload_n 3, 1) := by decide +kernel
theorem dX12_ringing_15 : decode cX12_ringing 15 = .ok (.iload_n 1, 1) := by decide +kernel
theorem dX12_ringing_16 : decode cX12_ringing 16 = .ok (.invokevirtual 254, 3) := by decide +kernel
theorem dX12_ringing_19 : decode cX12_ringing 19 = .ok (.ifCond .le 9, 3) := by decide +kernel
theorem dX12_ringing_22 : decode cX12_ringing 22 = .ok (.iconst 1, 1) := by decide +kernel
theorem dX12_ringing_23 : decode cX12_ringing 23 = .ok (.iload_n 3, 1) := by decide +kernel
theorem dX12_ringing_24 : decode cX12_ringing 24 = .ok (.ishl, 1) := by decide +kernel
theorem dX12_ringing_25 : decode cX12_ringing 25 = .ok (.goto 4, 3) := by decide +kernel
theorem dX12_ringing_28 : decode cX12_ringing 28 = .ok (.iconst 0, 1) := by decide +kernel
theorem dX12_ringing_29 : decode cX12_ringing 29 = .ok (.ior, 1) := by decide +kernel
theorem dX12_ringing_30 : decode cX12_ringing 30 = .ok (.istore_n 2, 1) := by decide +kernel
theorem dX12_ringing_31 : decode cX12_ringing 31 = .ok (.iinc 3 1, 3) := by decide +kernel
theorem dX12_ringing_34 : decode cX12_ringing 34 = .ok (.goto (-30), 3) := by decide +kernel
theorem dX12_ringing_37 : decode cX12_ringing 37 = .ok (.iload_n 2, 1) := by decide +kernel
theorem dX12_ringing_38 : decode cX12_ringing 38 = .ok (.ireturn, 1) := by decide +kernel
theorem dX12_rings_0 : decode cX12_rings 0 = .ok (.iconst 0, 1) := by decide +kernel
theorem dX12_rings_1 : decode cX12_rings 1 = .ok (.istore 4, 2) := by decide +kernel
theorem dX12_rings_3 : decode cX12_rings 3 = .ok (.iload 4, 2) := by decide +kernel
theorem dX12_rings_5 : decode cX12_rings 5 = .ok (.bipush 8, 2) := by decide +kernel
theorem dX12_rings_7 : decode cX12_rings 7 = .ok (.if_icmp .ge 17, 3) := by decide +kernel
theorem dX12_rings_10 : decode cX12_rings 10 = .ok (.aload_n 0, 1) := by decide +kernel
theorem dX12_rings_11 : decode cX12_rings 11 = .ok (.getfield 51, 3) := by decide +kernel
theorem dX12_rings_14 : decode cX12_rings 14 = .ok (.iload 4, 2) := by decide +kernel
theorem dX12_rings_16 : decode cX12_rings 16 = .ok (.iconst (-1), 1) := by decide +kernel
theorem dX12_rings_17 : decode cX12_rings 17 = .ok (.iastore, 1) := by decide +kernel
theorem dX12_rings_18 : decode cX12_rings 18 = .ok (.iinc 4 1, 3) := by decide +kernel
theorem dX12_rings_21 : decode cX12_rings 21 = .ok (.goto (-18), 3) := by decide +kernel
theorem dX12_rings_24 : decode cX12_rings 24 = .ok (.aload_n 0, 1) := by decide +kernel
theorem dX12_rings_25 : decode cX12_rings 25 = .ok (.iload_n 1, 1) := by decide +kernel
theorem dX12_rings_26 : decode cX12_rings 26 = .ok (.invokevirtual 343, 3) := by decide +kernel
theorem dX12_rings_29 : decode cX12_rings 29 = .ok (.istore 4, 2) := by decide +kernel
theorem dX12_rings_31 : decode cX12_rings 31 = .ok (.iconst 0, 1) := by decide +kernel
theorem dX12_rings_32 : decode cX12_rings 32 = .ok (.istore 5, 2) := by decide +kernel
theorem dX12_rings_34 : decode cX12_rings 34 = .ok (.iconst 0, 1) := by decide +kernel
theorem dX12_rings_35 : decode cX12_rings 35 = .ok (.istore 6, 2) := by decide +kernel
theorem dX12_rings_37 : decode cX12_rings 37 = .ok (.iconst 0, 1) := by decide +kernel
theorem dX12_rings_38 : decode cX12_rings 38 = .ok (.istore 7, 2) := by decide +kernel
theorem dX12_rings_40 : decode cX12_rings 40 = .ok (.iload 4, 2) := by decide +kernel
theorem dX12_rings_42 : decode cX12_rings 42 = .ok (.ifCond .eq 106, 3) := by decide +kernel
theorem dX12_rings_45 : decode cX12_rings 45 = .ok (.iload 4, 2) := by decide +kernel
theorem dX12_rings_47 : decode cX12_rings 47 = .ok (.istore 8, 2) := by decide +kernel
theorem dX12_rings_49 : decode cX12_rings 49 = .ok (.iload 8, 2) := by decide +kernel
theorem dX12_rings_51 : decode cX12_rings 51 = .ok (.ifCond .eq 91, 3) := by decide +kernel
theorem dX12_rings_54 : decode cX12_rings 54 = .ok (.aload_n 0, 1) := by decide +kernel
theorem dX12_rings_55 : decode cX12_rings 55 = .ok (.iload 8, 2) := by decide +kernel
theorem dX12_rings_57 : decode cX12_rings 57 = .ok (.iload_n 1, 1) := by decide +kernel
theorem dX12_rings_58 : decode cX12_rings 58 = .ok (.iload 7, 2) := by decide +kernel
theorem dX12_rings_60 : decode cX12_rings 60 = .ok (.iload_n 2, 1) := by decide +kernel
theorem dX12_rings_61 : decode cX12_rings 61 = .ok (.invokevirtual 346, 3) := by decide +kernel
theorem dX12_rings_64 : decode cX12_rings 64 = .ok (.istore 9, 2) := by decide +kernel
theorem dX12_rings_66 : decode cX12_rings 66 = .ok (.iload 8, 2) := by decide +kernel
theorem dX12_rings_68 : decode cX12_rings 68 = .ok (.iconst 1, 1) := by decide +kernel
theorem dX12_rings_69 : decode cX12_rings 69 = .ok (.iload 9, 2) := by decide +kernel
theorem dX12_rings_71 : decode cX12_rings 71 = .ok (.ishl, 1) := by decide +kernel
theorem dX12_rings_72 : decode cX12_rings 72 = .ok (.iconst (-1), 1) := by decide +kernel
theorem dX12_rings_73 : decode cX12_rings 73 = .ok (.ixor, 1) := by decide +kernel
theorem dX12_rings_74 : decode cX12_rings 74 = .ok (.iand, 1) := by decide +kernel
theorem dX12_rings_75 : decode cX12_rings 75 = .ok (.istore 8, 2) := by decide +kernel
theorem dX12_rings_77 : decode cX12_rings 77 = .ok (.aload_n 0, 1) := by decide +kernel
theorem dX12_rings_78 : decode cX12_rings 78 = .ok (.iload 9, 2) := by decide +kernel
theorem dX12_rings_80 : decode cX12_rings 80 = .ok (.iload_n 1, 1) := by decide +kernel
theorem dX12_rings_81 : decode cX12_rings 81 = .ok (.iload 7, 2) := by decide +kernel
theorem dX12_rings_83 : decode cX12_rings 83 = .ok (.invokevirtual 350, 3) := by decide +kernel
theorem dX12_rings_86 : decode cX12_rings 86 = .ok (.ifCond .ne 6, 3) := by decide +kernel
theorem dX12_rings_89 : decode cX12_rings 89 = .ok (.goto (-40), 3) := by decide +kernel
theorem dX12_rings_92 : decode cX12_rings 92 = .ok (.iload 4, 2) := by decide +kernel
theorem dX12_rings_94 : decode cX12_rings 94 = .ok (.iconst 1, 1) := by decide +kernel
theorem dX12_rings_95 : decode cX12_rings 95 = .ok (.iload 9, 2) := by decide +kernel
theorem dX12_rings_97 : decode cX12_rings 97 = .ok (.ishl, 1) := by decide +kernel
theorem dX12_rings_98 : decode cX12_rings 98 = .ok (.iconst (-1), 1) := by decide +kernel
theorem dX12_rings_99 : decode cX12_rings 99 = .ok (.ixor, 1) := by decide +kernel
theorem dX12_rings_100 : decode cX12_rings 100 = .ok (.iand, 1) := by decide +kernel
theorem dX12_rings_101 : decode cX12_rings 101 = .ok (.istore 4, 2) := by decide +kernel
theorem dX12_rings_103 : decode cX12_rings 103 = .ok (.aload_n 0, 1) := by decide +kernel
theorem dX12_rings_104 : decode cX12_rings 104 = .ok (.getfield 51, 3) := by decide +kernel
theorem dX12_rings_107 : decode cX12_rings 107 = .ok (.iload 9, 2) := by decide +kernel
theorem dX12_rings_109 : decode cX12_rings 109 = .ok (.iload 7, 2) := by decide +kernel
theorem dX12_rings_111 : decode cX12_rings 111 = .ok (.iastore, 1) := by decide +kernel
theorem dX12_rings_112 : decode cX12_rings 112 = .ok (.iload 5, 2) := by decide +kernel
theorem dX12_rings_114 : decode cX12_rings 114 = .ok (.iload 7, 2) := by decide +kernel
theorem dX12_rings_116 : decode cX12_rings 116 = .ok (.iadd, 1) := by decide +kernel
theorem dX12_rings_117 : decode cX12_rings 117 = .ok (.istore 5, 2) := by decide +kernel
theorem dX12_rings_119 : decode cX12_rings 119 = .ok (.iload 6, 2) := by decide +kernel
theorem dX12_rings_121 : decode cX12_rings 121 = .ok (.iload 7, 2) := by decide +kernel
theorem dX12_rings_123 : decode cX12_rings 123 = .ok (.aload_n 0, 1) := by decide +kernel
theorem dX12_rings_124 : decode cX12_rings 124 = .ok (.iload 9, 2) := by decide +kernel
theorem dX12_rings_126 : decode cX12_rings 126 = .ok (.iload_n 1, 1) := by decide +kernel
theorem dX12_rings_127 : decode cX12_rings 127 = .ok (.invokevirtual 254, 3) := by decide +kernel
theorem dX12_rings_130 : decode cX12_rings 130 = .ok (.invokestatic 268, 3) := by decide +kernel
theorem dX12_rings_133 : decode cX12_rings 133 = .ok (.iadd, 1) := by decide +kernel
theorem dX12_rings_134 : decode cX12_rings 134 = .ok (.invokestatic 94, 3) := by decide +kernel
theorem dX12_rings_137 : decode cX12_rings 137 = .ok (.istore 6, 2) := by decide +kernel
theorem dX12_rings_139 : decode cX12_rings 139 = .ok (.goto (-90), 3) := by decide +kernel
theorem dX12_rings_142 : decode cX12_rings 142 = .ok (.iinc 7 1, 3) := by decide +kernel
theorem dX12_rings_145 : decode cX12_rings 145 = .ok (.goto (-105), 3) := by decide +kernel
theorem dX12_rings_148 : decode cX12_rings 148 = .ok (.iload_n 3, 1) := by decide +kernel
theorem dX12_rings_149 : decode cX12_rings 149 = .ok (.ifCond .ne 8, 3) := by decide +kernel
theorem dX12_rings_152 : decode cX12_rings 152 = .ok (.iload 5, 2) := by decide +kernel
theorem dX12_rings_154 : decode cX12_rings 154 = .ok (.goto 5, 3) := by decide +kernel
theorem dX12_rings_157 : decode cX12_rings 157 = .ok (.iload 6, 2) := by decide +kernel
theorem dX12_rings_159 : decode cX12_rings 159 = .ok (.ireturn, 1) := by decide +kernel
theorem dX12_six_0 : decode cX12_six 0 = .ok (.aload_n 0, 1) := by decide +kernel
theorem dX12_six_1 : decode cX12_six 1 = .ok (.iconst 0, 1) := by decide +kernel
theorem dX12_six_2 : decode cX12_six 2 = .ok (.putfield 3, 3) := by decide +kernel
theorem dX12_six_5 : decode cX12_six 5 = .ok (.aload_n 0, 1) := by decide +kernel
theorem dX12_six_6 : decode cX12_six 6 = .ok (.aload_n 0, 1) := by decide +kernel
theorem dX12_six_7 : decode cX12_six 7 = .ok (.iload_n 1, 1) := by decide +kernel
theorem dX12_six_8 : decode cX12_six 8 = .ok (.invokevirtual 263, 3) := by decide +kernel
theorem dX12_six_11 : decode cX12_six 11 = .ok (.iconst 1, 1) := by decide +kernel
theorem dX12_six_12 : decode cX12_six 12 = .ok (.invokevirtual 242, 3) := by decide +kernel
theorem dX12_six_15 : decode cX12_six 15 = .ok (.ifCond .ne 25, 3) := by decide +kernel
theorem dX12_six_18 : decode cX12_six 18 = .ok (.aload_n 0, 1) := by decide +kernel
theorem dX12_six_19 : decode cX12_six 19 = .ok (.iload_n 2, 1) := by decide +kernel
theorem dX12_six_20 : decode cX12_six 20 = .ok (.iconst 0, 1) := by decide +kernel
theorem dX12_six_21 : decode cX12_six 21 = .ok (.iconst 1, 1) := by decide +kernel
theorem dX12_six_22 : decode cX12_six 22 = .ok (.invokestatic 78, 3) := by decide +kernel
theorem dX12_six_25 : decode cX12_six 25 = .ok (.ifCond .ne 7, 3) := by decide +kernel
theorem dX12_six_28 : decode cX12_six 28 = .ok (.iconst 1, 1) := by decide +kernel
theorem dX12_six_29 : decode cX12_six 29 = .ok (.goto 4, 3) := by decide +kernel
theorem dX12_six_32 : decode cX12_six 32 = .ok (.iconst 0, 1) := by decide +kernel
theorem dX12_six_33 : decode cX12_six 33 = .ok (.iconst 2, 1) := by decide +kernel
theorem dX12_six_34 : decode cX12_six 34 = .ok (.invokevirtual 242, 3) := by decide +kernel
theorem dX12_six_37 : decode cX12_six 37 = .ok (.ifCond .eq 7, 3) := by decide +kernel
theorem dX12_six_40 : decode cX12_six 40 = .ok (.iconst 0, 1) := by decide +kernel
theorem dX12_six_41 : decode cX12_six 41 = .ok (.goto 10, 3) := by decide +kernel
theorem dX12_six_44 : decode cX12_six 44 = .ok (.aload_n 0, 1) := by decide +kernel
theorem dX12_six_45 : decode cX12_six 45 = .ok (.iload_n 1, 1) := by decide +kernel
theorem dX12_six_46 : decode cX12_six 46 = .ok (.iconst 0, 1) := by decide +kernel
theorem dX12_six_47 : decode cX12_six 47 = .ok (.iload_n 2, 1) := by decide +kernel
theorem dX12_six_48 : decode cX12_six 48 = .ok (.invokevirtual 353, 3) := by decide +kernel
theorem dX12_six_51 : decode cX12_six 51 = .ok (.ireturn, 1) := by decide +kernel
theorem dX12_lot_0 : decode cX12_lot 0 = .ok (.aload_n 0, 1) := by decide +kernel
theorem dX12_lot_1 : decode cX12_lot 1 = .ok (.iconst 0, 1) := by decide +kernel
theorem dX12_lot_2 : decode cX12_lot 2 = .ok (.putfield 3, 3) := by decide +kernel
theorem dX12_lot_5 : decode cX12_lot 5 = .ok (.aload_n 0, 1) := by decide +kernel
theorem dX12_lot_6 : decode cX12_lot 6 = .ok (.aload_n 0, 1) := by decide +kernel
theorem dX12_lot_7 : decode cX12_lot 7 = .ok (.iload_n 1, 1) := by decide +kernel
theorem dX12_lot_8 : decode cX12_lot 8 = .ok (.invokevirtual 263, 3) := by decide +kernel
theorem dX12_lot_11 : decode cX12_lot 11 = .ok (.iconst 1, 1) := by decide +kernel
theorem dX12_lot_12 : decode cX12_lot 12 = .ok (.invokevirtual 242, 3) := by decide +kernel
theorem dX12_lot_15 : decode cX12_lot 15 = .ok (.ifCond .ne 25, 3) := by decide +kernel
theorem dX12_lot_18 : decode cX12_lot 18 = .ok (.aload_n 0, 1) := by decide +kernel
theorem dX12_lot_19 : decode cX12_lot 19 = .ok (.iload_n 3, 1) := by decide +kernel
theorem dX12_lot_20 : decode cX12_lot 20 = .ok (.iconst 0, 1) := by decide +kernel
theorem dX12_lot_21 : decode cX12_lot 21 = .ok (.iconst 1, 1) := by decide +kernel
theorem dX12_lot_22 : decode cX12_lot 22 = .ok (.invokestatic 78, 3) := by decide +kernel
theorem dX12_lot_25 : decode cX12_lot 25 = .ok (.ifCond .ne 7, 3) := by decide +kernel
theorem dX12_lot_28 : decode cX12_lot 28 = .ok (.iconst 1, 1) := by decide +kernel
theorem dX12_lot_29 : decode cX12_lot 29 = .ok (.goto 4, 3) := by decide +kernel
theorem dX12_lot_32 : decode cX12_lot 32 = .ok (.iconst 0, 1) := by decide +kernel
theorem dX12_lot_33 : decode cX12_lot 33 = .ok (.iconst 2, 1) := by decide +kernel
theorem dX12_lot_34 : decode cX12_lot 34 = .ok (.invokevirtual 242, 3) := by decide +kernel
theorem dX12_lot_37 : decode cX12_lot 37 = .ok (.ifCond .eq 5, 3) := by decide +kernel
theorem dX12_lot_40 : decode cX12_lot 40 = .ok (.iconst 0, 1) := by decide +kernel
theorem dX12_lot_41 : decode cX12_lot 41 = .ok (.ireturn, 1) := by decide +kernel
theorem dX12_lot_42 : decode cX12_lot 42 = .ok (.aload_n 0, 1) := by decide +kernel
theorem dX12_lot_43 : decode cX12_lot 43 = .ok (.iload_n 1, 1) := by decide +kernel
theorem dX12_lot_44 : decode cX12_lot 44 = .ok (.invokevirtual 343, 3) := by decide +kernel
theorem dX12_lot_47 : decode cX12_lot 47 = .ok (.istore 4, 2) := by decide +kernel
theorem dX12_lot_49 : decode cX12_lot 49 = .ok (.aload_n 0, 1) := by decide +kernel
theorem dX12_lot_50 : decode cX12_lot 50 = .ok (.iload_n 2, 1) := by decide +kernel
theorem dX12_lot_51 : decode cX12_lot 51 = .ok (.putfield 309, 3) := by decide +kernel
theorem dX12_lot_54 : decode cX12_lot 54 = .ok (.iconst 0, 1) := by decide +kernel
theorem dX12_lot_55 : decode cX12_lot 55 = .ok (.istore 5, 2) := by decide +kernel
theorem dX12_lot_57 : decode cX12_lot 57 = .ok (.iload 4, 2) := by decide +kernel
theorem dX12_lot_59 : decode cX12_lot 59 = .ok (.ifCond .eq 84, 3) := by decide +kernel
theorem dX12_lot_62 : decode cX12_lot 62 = .ok (.aload_n 0, 1) := by decide +kernel
theorem dX12_lot_63 : decode cX12_lot 63 = .ok (.iload 4, 2) := by decide +kernel
theorem dX12_lot_65 : decode cX12_lot 65 = .ok (.invokestatic 89, 3) := by decide +kernel
theorem dX12_lot_68 : decode cX12_lot 68 = .ok (.invokevirtual 312, 3) := by decide +kernel
theorem dX12_lot_71 : decode cX12_lot 71 = .ok (.istore 6, 2) := by decide +kernel
theorem dX12_lot_73 : decode cX12_lot 73 = .ok (.iconst 0, 1) := by decide +kernel
theorem dX12_lot_74 : decode cX12_lot 74 = .ok (.istore 7, 2) := by decide +kernel
theorem dX12_lot_76 : decode cX12_lot 76 = .ok (.iload 4, 2) := by decide +kernel
theorem dX12_lot_78 : decode cX12_lot 78 = .ok (.iload 7, 2) := by decide +kernel
theorem dX12_lot_80 : decode cX12_lot 80 = .ok (.invokestatic 319, 3) := by decide +kernel
theorem dX12_lot_83 : decode cX12_lot 83 = .ok (.ifCond .eq 8, 3) := by decide +kernel
theorem dX12_lot_86 : decode cX12_lot 86 = .ok (.iload 6, 2) := by decide +kernel
theorem dX12_lot_88 : decode cX12_lot 88 = .ok (.ifCond .le 29, 3) := by decide +kernel
theorem dX12_lot_91 : decode cX12_lot 91 = .ok (.iload 6, 2) := by decide +kernel
theorem dX12_lot_93 : decode cX12_lot 93 = .ok (.iload 4, 2) := by decide +kernel
theorem dX12_lot_95 : decode cX12_lot 95 = .ok (.iload 7, 2) := by decide +kernel
theorem dX12_lot_97 : decode cX12_lot 97 = .ok (.invokestatic 319, 3) := by decide +kernel
theorem dX12_lot_100 : decode cX12_lot 100 = .ok (.ifCond .eq 7, 3) := by decide +kernel
theorem dX12_lot_103 : decode cX12_lot 103 = .ok (.iconst 1, 1) := by decide +kernel
theorem dX12_lot_104 : decode cX12_lot 104 = .ok (.goto 4, 3) := by decide +kernel
theorem dX12_lot_107 : decode cX12_lot 107 = .ok (.iconst 0, 1) := by decide +kernel
theorem dX12_lot_108 : decode cX12_lot 108 = .ok (.isub, 1) := by decide +kernel
theorem dX12_lot_109 : decode cX12_lot 109 = .ok (.istore 6, 2) := by decide +kernel
theorem dX12_lot_111 : decode cX12_lot 111 = .ok (.iinc 7 1, 3) := by decide +kernel
theorem dX12_lot_114 : decode cX12_lot 114 = .ok (.goto (-38), 3) := by decide +kernel
theorem dX12_lot_117 : decode cX12_lot 117 = .ok (.aload_n 0, 1) := by decide +kernel
theorem dX12_lot_118 : decode cX12_lot 118 = .ok (.getfield 54, 3) := by decide +kernel
theorem dX12_lot_121 : decode cX12_lot 121 = .ok (.iload 7, 2) := by decide +kernel
theorem dX12_lot_123 : decode cX12_lot 123 = .ok (.iload 5, 2) := by decide +kernel
theorem dX12_lot_125 : decode cX12_lot 125 = .ok (.iastore, 1) := by decide +kernel
theorem dX12_lot_126 : decode cX12_lot 126 = .ok (.iload 4, 2) := by decide +kernel
theorem dX12_lot_128 : decode cX12_lot 128 = .ok (.iconst 1, 1) := by decide +kernel
theorem dX12_lot_129 : decode cX12_lot 129 = .ok (.iload 7, 2) := by decide +kernel
theorem dX12_lot_131 : decode cX12_lot 131 = .ok (.ishl, 1) := by decide +kernel
theorem dX12_lot_132 : decode cX12_lot 132 = .ok (.iconst (-1), 1) := by decide +kernel
theorem dX12_lot_133 : decode cX12_lot 133 = .ok (.ixor, 1) := by decide +kernel
theorem dX12_lot_134 : decode cX12_lot 134 = .ok (.iand, 1) := by decide +kernel
theorem dX12_lot_135 : decode cX12_lot 135 = .ok (.istore 4, 2) := by decide +kernel
theorem dX12_lot_137 : decode cX12_lot 137 = .ok (.iinc 5 1, 3) := by decide +kernel
theorem dX12_lot_140 : decode cX12_lot 140 = .ok (.goto (-83), 3) := by decide +kernel
theorem dX12_lot_143 : decode cX12_lot 143 = .ok (.aload_n 0, 1) := by decide +kernel
theorem dX12_lot_144 : decode cX12_lot 144 = .ok (.iload_n 1, 1) := by decide +kernel
theorem dX12_lot_145 : decode cX12_lot 145 = .ok (.iconst 1, 1) := by decide +kernel
theorem dX12_lot_146 : decode cX12_lot 146 = .ok (.iload_n 3, 1) := by decide +kernel
theorem dX12_lot_147 : decode cX12_lot 147 = .ok (.invokevirtual 353, 3) := by decide +kernel
theorem dX12_lot_150 : decode cX12_lot 150 = .ok (.ireturn, 1) := by decide +kernel
theorem dX12_isRoom_0 : decode cX12_isRoom 0 = .ok (.iconst 1, 1) := by decide +kernel
theorem dX12_isRoom_1 : decode cX12_isRoom 1 = .ok (.istore 4, 2) := by decide +kernel
theorem dX12_isRoom_3 : decode cX12_isRoom 3 = .ok (.iconst 0, 1) := by decide +kernel
theorem dX12_isRoom_4 : decode cX12_isRoom 4 = .ok (.istore 5, 2) := by decide +kernel
theorem dX12_isRoom_6 : decode cX12_isRoom 6 = .ok (.iload 5, 2) := by decide +kernel
theorem dX12_isRoom_8 : decode cX12_isRoom 8 = .ok (.aload_n 0, 1) := by decide +kernel
theorem dX12_isRoom_9 : decode cX12_isRoom 9 = .ok (.invokevirtual 82, 3) := by decide +kernel
theorem dX12_isRoom_12 : decode cX12_isRoom 12 = .ok (.if_icmp .ge 59, 3) := by decide +kernel
theorem dX12_isRoom_15 : decode cX12_isRoom 15 = .ok (.aload_n 0, 1) := by decide +kernel
theorem dX12_isRoom_16 : decode cX12_isRoom 16 = .ok (.iload_n 1, 1) := by decide +kernel
theorem dX12_isRoom_17 : decode cX12_isRoom 17 = .ok (.iload 5, 2) := by decide +kernel
theorem dX12_isRoom_19 : decode cX12_isRoom 19 = .ok (.invokevirtual 254, 3) := by decide +kernel
theorem dX12_isRoom_22 : decode cX12_isRoom 22 = .ok (.istore 6, 2) := by decide +kernel
theorem dX12_isRoom_24 : decode cX12_isRoom 24 = .ok (.iload 4, 2) := by decide +kernel
theorem dX12_isRoom_26 : decode cX12_isRoom 26 = .ok (.ifCond .eq 36, 3) := by decide +kernel
theorem dX12_isRoom_29 : decode cX12_isRoom 29 = .ok (.iload 5, 2) := by decide +kernel
theorem dX12_isRoom_31 : decode cX12_isRoom 31 = .ok (.iload_n 3, 1) := by decide +kernel
theorem dX12_isRoom_32 : decode cX12_isRoom 32 = .ok (.if_icmp .eq 26, 3) := by decide +kernel
theorem dX12_isRoom_35 : decode cX12_isRoom 35 = .ok (.iload 6, 2) := by decide +kernel
theorem dX12_isRoom_37 : decode cX12_isRoom 37 = .ok (.ifCond .eq 21, 3) := by decide +kernel
theorem dX12_isRoom_40 : decode cX12_isRoom 40 = .ok (.iload 6, 2) := by decide +kernel
theorem dX12_isRoom_42 : decode cX12_isRoom 42 = .ok (.iload_n 2, 1) := by decide +kernel
theorem dX12_isRoom_43 : decode cX12_isRoom 43 = .ok (.invokestatic 303, 3) := by decide +kernel
theorem dX12_isRoom_46 : decode cX12_isRoom 46 = .ok (.ifCond .ne 16, 3) := by decide +kernel
theorem dX12_isRoom_49 : decode cX12_isRoom 49 = .ok (.iload_n 2, 1) := by decide +kernel
theorem dX12_isRoom_50 : decode cX12_isRoom 50 = .ok (.iload 6, 2) := by decide +kernel
theorem dX12_isRoom_52 : decode cX12_isRoom 52 = .ok (.invokestatic 303, 3) := by decide +kernel
theorem dX12_isRoom_55 : decode cX12_isRoom 55 = .ok (.ifCond .ne 7, 3) := by decide +kernel
theorem dX12_isRoom_58 : decode cX12_isRoom 58 = .ok (.iconst 1, 1) := by decide +kernel
theorem dX12_isRoom_59 : decode cX12_isRoom 59 = .ok (.goto 4, 3) := by decide +kernel
theorem dX12_isRoom_62 : decode cX12_isRoom 62 = .ok (.iconst 0, 1) := by decide +kernel
theorem dX12_isRoom_63 : decode cX12_isRoom 63 = .ok (.istore 4, 2) := by decide +kernel
theorem dX12_isRoom_65 : decode cX12_isRoom 65 = .ok (.iinc 5 1, 3) := by decide +kernel
theorem dX12_isRoom_68 : decode cX12_isRoom 68 = .ok (.goto (-62), 3) := by decide +kernel
theorem dX12_isRoom_71 : decode cX12_isRoom 71 = .ok (.iload 4, 2) := by decide +kernel
theorem dX12_isRoom_73 : decode cX12_isRoom 73 = .ok (.ireturn, 1) := by decide +kernel
theorem dX12_fits_0 : decode cX12_fits 0 = .ok (.iconst 0, 1) := by decide +kernel
theorem dX12_fits_1 : decode cX12_fits 1 = .ok (.istore 4, 2) := by decide +kernel
theorem dX12_fits_3 : decode cX12_fits 3 = .ok (.iconst 2, 1) := by decide +kernel
theorem dX12_fits_4 : decode cX12_fits 4 = .ok (.istore 5, 2) := by decide +kernel
theorem dX12_fits_6 : decode cX12_fits 6 = .ok (.iload 5, 2) := by decide +kernel
theorem dX12_fits_8 : decode cX12_fits 8 = .ok (.sipush 511, 3) := by decide +kernel
theorem dX12_fits_11 : decode cX12_fits 11 = .ok (.if_icmp .gt 67, 3) := by decide +kernel
theorem dX12_fits_14 : decode cX12_fits 14 = .ok (.aload_n 0, 1) := by decide +kernel
theorem dX12_fits_15 : decode cX12_fits 15 = .ok (.iload_n 1, 1) := by decide +kernel
theorem dX12_fits_16 : decode cX12_fits 16 = .ok (.iload 5, 2) := by decide +kernel
theorem dX12_fits_18 : decode cX12_fits 18 = .ok (.iload_n 3, 1) := by decide +kernel
theorem dX12_fits_19 : decode cX12_fits 19 = .ok (.invokevirtual 357, 3) := by decide +kernel
theorem dX12_fits_22 : decode cX12_fits 22 = .ok (.ifCond .eq 50, 3) := by decide +kernel
theorem dX12_fits_25 : decode cX12_fits 25 = .ok (.iload_n 2, 1) := by decide +kernel
theorem dX12_fits_26 : decode cX12_fits 26 = .ok (.ifCond .le 24, 3) := by decide +kernel
theorem dX12_fits_29 : decode cX12_fits 29 = .ok (.iload_n 2, 1) := by decide +kernel
theorem dX12_fits_30 : decode cX12_fits 30 = .ok (.iload 5, 2) := by decide +kernel
theorem dX12_fits_32 : decode cX12_fits 32 = .ok (.invokestatic 303, 3) := by decide +kernel
theorem dX12_fits_35 : decode cX12_fits 35 = .ok (.ifCond .ne 37, 3) := by decide +kernel
theorem dX12_fits_38 : decode cX12_fits 38 = .ok (.iload 5, 2) := by decide +kernel
theorem dX12_fits_40 : decode cX12_fits 40 = .ok (.iload_n 2, 1) := by decide +kernel
theorem dX12_fits_41 : decode cX12_fits 41 = .ok (.invokestatic 303, 3) := by decide +kernel
theorem dX12_fits_44 : decode cX12_fits 44 = .ok (.ifCond .eq 6, 3) := by decide +kernel
theorem dX12_fits_47 : decode cX12_fits 47 = .ok (.goto 25, 3) := by decide +kernel
theorem dX12_fits_50 : decode cX12_fits 50 = .ok (.iload 4, 2) := by decide +kernel
theorem dX12_fits_52 : decode cX12_fits 52 = .ok (.ifCond .eq 16, 3) := by decide +kernel
theorem dX12_fits_55 : decode cX12_fits 55 = .ok (.iload 5, 2) := by decide +kernel
theorem dX12_fits_57 : decode cX12_fits 57 = .ok (.invokestatic 268, 3) := by decide +kernel
theorem dX12_fits_60 : decode cX12_fits 60 = .ok (.iload 4, 2) := by decide +kernel
theorem dX12_fits_62 : decode cX12_fits 62 = .ok (.invokestatic 268, 3) := by decide +kernel
theorem dX12_fits_65 : decode cX12_fits 65 = .ok (.if_icmp .ge 7, 3) := by decide +kernel
theorem dX12_fits_68 : decode cX12_fits 68 = .ok (.iload 5, 2) := by decide +kernel
theorem dX12_fits_70 : decode cX12_fits 70 = .ok (.istore 4, 2) := by decide +kernel
theorem dX12_fits_72 : decode cX12_fits 72 = .ok (.iinc 5 1, 3) := by decide +kernel
theorem dX12_fits_75 : decode cX12_fits 75 = .ok (.goto (-69), 3) := by decide +kernel
theorem dX12_fits_78 : decode cX12_fits 78 = .ok (.iload 4, 2) := by decide +kernel
theorem dX12_fits_80 : decode cX12_fits 80 = .ok (.ireturn, 1) := by decide +kernel
theorem dX12_room_0 : decode cX12_room 0 = .ok (.aload_n 0, 1) := by decide +kernel
theorem dX12_room_1 : decode cX12_room 1 = .ok (.iconst 0, 1) := by decide +kernel
theorem dX12_room_2 : decode cX12_room 2 = .ok (.putfield 3, 3) := by decide +kernel
theorem dX12_room_5 : decode cX12_room 5 = .ok (.aload_n 0, 1) := by decide +kernel
theorem dX12_room_6 : decode cX12_room 6 = .ok (.aload_n 0, 1) := by decide +kernel
theorem dX12_room_7 : decode cX12_room 7 = .ok (.iload_n 1, 1) := by decide +kernel
theorem dX12_room_8 : decode cX12_room 8 = .ok (.invokevirtual 257, 3) := by decide +kernel
theorem dX12_room_11 : decode cX12_room 11 = .ok (.ifCond .ne 11, 3) := by decide +kernel
theorem dX12_room_14 : decode cX12_room 14 = .ok (.aload_n 0, 1) := by decide +kernel
theorem dX12_room_15 : decode cX12_room 15 = .ok (.iload_n 2, 1) := by decide +kernel
theorem dX12_room_16 : decode cX12_room 16 = .ok (.invokevirtual 263, 3) := by decide +kernel
theorem dX12_room_19 : decode cX12_room 19 = .ok (.ifCond .eq 7, 3) := by decide +kernel
theorem dX12_room_22 : decode cX12_room 22 = .ok (.iconst 1, 1) := by decide +kernel
theorem dX12_room_23 : decode cX12_room 23 = .ok (.goto 4, 3) := by decide +kernel
theorem dX12_room_26 : decode cX12_room 26 = .ok (.iconst 0, 1) := by decide +kernel
theorem dX12_room_27 : decode cX12_room 27 = .ok (.iconst 1, 1) := by decide +kernel
theorem dX12_room_28 : decode cX12_room 28 = .ok (.invokevirtual 242, 3) := by decide +kernel
theorem dX12_room_31 : decode cX12_room 31 = .ok (.ifCond .ne 25, 3) := by decide +kernel
theorem dX12_room_34 : decode cX12_room 34 = .ok (.aload_n 0, 1) := by decide +kernel
theorem dX12_room_35 : decode cX12_room 35 = .ok (.aload_n 0, 1) := by decide +kernel
theorem dX12_room_36 : decode cX12_room 36 = .ok (.iload_n 1, 1) := by decide +kernel
theorem dX12_room_37 : decode cX12_room 37 = .ok (.iload_n 2, 1) := by decide +kernel
theorem dX12_room_38 : decode cX12_room 38 = .ok (.invokevirtual 254, 3) := by decide +kernel
theorem dX12_room_41 : decode cX12_room 41 = .ok (.ifCond .le 7, 3) := by decide +kernel
theorem dX12_room_44 : decode cX12_room 44 = .ok (.iconst 1, 1) := by decide +kernel
theorem dX12_room_45 : decode cX12_room 45 = .ok (.goto 4, 3) := by decide +kernel
theorem dX12_room_48 : decode cX12_room 48 = .ok (.iconst 0, 1) := by decide +kernel
theorem dX12_room_49 : decode cX12_room 49 = .ok (.iconst 2, 1) := by decide +kernel
theorem dX12_room_50 : decode cX12_room 50 = .ok (.invokevirtual 242, 3) := by decide +kernel
theorem dX12_room_53 : decode cX12_room 53 = .ok (.ifCond .eq 5, 3) := by decide +kernel
theorem dX12_room_56 : decode cX12_room 56 = .ok (.iconst 0, 1) := by decide +kernel
theorem dX12_room_57 : decode cX12_room 57 = .ok (.ireturn, 1) := by decide +kernel
theorem dX12_room_58 : decode cX12_room 58 = .ok (.aload_n 0, 1) := by decide +kernel
theorem dX12_room_59 : decode cX12_room 59 = .ok (.iload_n 1, 1) := by decide +kernel
theorem dX12_room_60 : decode cX12_room 60 = .ok (.invokevirtual 316, 3) := by decide +kernel
theorem dX12_room_63 : decode cX12_room 63 = .ok (.ifCond .le 5, 3) := by decide +kernel
theorem dX12_room_66 : decode cX12_room 66 = .ok (.iconst (-1), 1) := by decide +kernel
theorem dX12_room_67 : decode cX12_room 67 = .ok (.ireturn, 1) := by decide +kernel
theorem dX12_room_68 : decode cX12_room 68 = .ok (.aload_n 0, 1) := by decide +kernel
theorem dX12_room_69 : decode cX12_room 69 = .ok (.iload_n 1, 1) := by decide +kernel
theorem dX12_room_70 : decode cX12_room 70 = .ok (.iconst 0, 1) := by decide +kernel
theorem dX12_room_71 : decode cX12_room 71 = .ok (.iconst (-1), 1) := by decide +kernel
theorem dX12_room_72 : decode cX12_room 72 = .ok (.invokevirtual 360, 3) := by decide +kernel
theorem dX12_room_75 : decode cX12_room 75 = .ok (.istore 4, 2) := by decide +kernel
theorem dX12_room_77 : decode cX12_room 77 = .ok (.iload 4, 2) := by decide +kernel
theorem dX12_room_79 : decode cX12_room 79 = .ok (.ifCond .le 17, 3) := by decide +kernel
theorem dX12_room_82 : decode cX12_room 82 = .ok (.aload_n 0, 1) := by decide +kernel
theorem dX12_room_83 : decode cX12_room 83 = .ok (.iload_n 2, 1) := by decide +kernel
theorem dX12_room_84 : decode cX12_room 84 = .ok (.invokevirtual 266, 3) := by decide +kernel
theorem dX12_room_87 : decode cX12_room 87 = .ok (.iload 4, 2) := by decide +kernel
theorem dX12_room_89 : decode cX12_room 89 = .ok (.invokestatic 268, 3) := by decide +kernel
theorem dX12_room_92 : decode cX12_room 92 = .ok (.imul, 1) := by decide +kernel
theorem dX12_room_93 : decode cX12_room 93 = .ok (.goto 6, 3) := by decide +kernel
theorem dX12_room_96 : decode cX12_room 96 = .ok (.ldc_w 322, 3) := by decide +kernel
theorem dX12_room_99 : decode cX12_room 99 = .ok (.istore 5, 2) := by decide +kernel
theorem dX12_room_101 : decode cX12_room 101 = .ok (.iconst 0, 1) := by decide +kernel
theorem dX12_room_102 : decode cX12_room 102 = .ok (.istore 6, 2) := by decide +kernel
theorem dX12_room_104 : decode cX12_room 104 = .ok (.iload 6, 2) := by decide +kernel
theorem dX12_room_106 : decode cX12_room 106 = .ok (.aload_n 0, 1) := by decide +kernel
theorem dX12_room_107 : decode cX12_room 107 = .ok (.invokevirtual 82, 3) := by decide +kernel
theorem dX12_room_110 : decode cX12_room 110 = .ok (.if_icmp .ge 121, 3) := by decide +kernel
theorem dX12_room_113 : decode cX12_room 113 = .ok (.iconst 0, 1) := by decide +kernel
theorem dX12_room_114 : decode cX12_room 114 = .ok (.istore 7, 2) := by decide +kernel
theorem dX12_room_116 : decode cX12_room 116 = .ok (.iload 7, 2) := by decide +kernel
theorem dX12_room_118 : decode cX12_room 118 = .ok (.iconst 2, 1) := by decide +kernel
theorem dX12_room_119 : decode cX12_room 119 = .ok (.if_icmp .ge 106, 3) := by decide +kernel
theorem dX12_room_122 : decode cX12_room 122 = .ok (.aload_n 0, 1) := by decide +kernel
theorem dX12_room_123 : decode cX12_room 123 = .ok (.iload_n 1, 1) := by decide +kernel
theorem dX12_room_124 : decode cX12_room 124 = .ok (.iload 6, 2) := by decide +kernel
theorem dX12_room_126 : decode cX12_room 126 = .ok (.invokevirtual 254, 3) := by decide +kernel
theorem dX12_room_129 : decode cX12_room 129 = .ok (.istore 8, 2) := by decide +kernel
theorem dX12_room_131 : decode cX12_room 131 = .ok (.iload 8, 2) := by decide +kernel
theorem dX12_room_133 : decode cX12_room 133 = .ok (.ifCond .eq 86, 3) := by decide +kernel
theorem dX12_room_136 : decode cX12_room 136 = .ok (.iload 8, 2) := by decide +kernel
theorem dX12_room_138 : decode cX12_room 138 = .ok (.invokestatic 85, 3) := by decide +kernel
theorem dX12_room_141 : decode cX12_room 141 = .ok (.bipush 8, 2) := by decide +kernel
theorem dX12_room_143 : decode cX12_room 143 = .ok (.if_icmp .ne 6, 3) := by decide +kernel
theorem dX12_room_146 : decode cX12_room 146 = .ok (.goto 73, 3) := by decide +kernel
theorem dX12_room_149 : decode cX12_room 149 = .ok (.aload_n 0, 1) := by decide +kernel
theorem dX12_room_150 : decode cX12_room 150 = .ok (.iload_n 1, 1) := by decide +kernel
theorem dX12_room_151 : decode cX12_room 151 = .ok (.iconst 2, 1) := by decide +kernel
theorem dX12_room_152 : decode cX12_room 152 = .ok (.iload 8, 2) := by decide +kernel
theorem dX12_room_154 : decode cX12_room 154 = .ok (.imul, 1) := by decide +kernel
theorem dX12_room_155 : decode cX12_room 155 = .ok (.iload 7, 2) := by decide +kernel
theorem dX12_room_157 : decode cX12_room 157 = .ok (.iadd, 1) := by decide +kernel
theorem dX12_room_158 : decode cX12_room 158 = .ok (.iload 6, 2) := by decide +kernel
theorem dX12_room_160 : decode cX12_room 160 = .ok (.invokevirtual 360, 3) := by decide +kernel
theorem dX12_room_163 : decode cX12_room 163 = .ok (.istore 9, 2) := by decide +kernel
theorem dX12_room_165 : decode cX12_room 165 = .ok (.iload 9, 2) := by decide +kernel
theorem dX12_room_167 : decode cX12_room 167 = .ok (.ifCond .ne 9, 3) := by decide +kernel
theorem dX12_room_170 : decode cX12_room 170 = .ok (.ldc_w 322, 3) := by decide +kernel
theorem dX12_room_173 : decode cX12_room 173 = .ok (.goto 26, 3) := by decide +kernel
theorem dX12_room_176 : decode cX12_room 176 = .ok (.aload_n 0, 1) := by decide +kernel
theorem dX12_room_177 : decode cX12_room 177 = .ok (.iload_n 2, 1) := by decide +kernel
theorem dX12_room_178 : decode cX12_room 178 = .ok (.invokevirtual 266, 3) := by decide +kernel
theorem dX12_room_181 : decode cX12_room 181 = .ok (.iload 9, 2) := by decide +kernel
theorem dX12_room_183 : decode cX12_room 183 = .ok (.invokestatic 268, 3) := by decide +kernel
theorem dX12_room_186 : decode cX12_room 186 = .ok (.imul, 1) := by decide +kernel
theorem dX12_room_187 : decode cX12_room 187 = .ok (.aload_n 0, 1) := by decide +kernel
theorem dX12_room_188 : decode cX12_room 188 = .ok (.iload 6, 2) := by decide +kernel
theorem dX12_room_190 : decode cX12_room 190 = .ok (.invokevirtual 266, 3) := by decide +kernel
theorem dX12_room_193 : decode cX12_room 193 = .ok (.iconst 1, 1) := by decide +kernel
theorem dX12_room_194 : decode cX12_room 194 = .ok (.iload 7, 2) := by decide +kernel
theorem dX12_room_196 : decode cX12_room 196 = .ok (.iadd, 1) := by decide +kernel
theorem dX12_room_197 : decode cX12_room 197 = .ok (.imul, 1) := by decide +kernel
theorem dX12_room_198 : decode cX12_room 198 = .ok (.iadd, 1) := by decide +kernel
theorem dX12_room_199 : decode cX12_room 199 = .ok (.istore 10, 2) := by decide +kernel
theorem dX12_room_201 : decode cX12_room 201 = .ok (.iload 10, 2) := by decide +kernel
theorem dX12_room_203 : decode cX12_room 203 = .ok (.iload 5, 2) := by decide +kernel
theorem dX12_room_205 : decode cX12_room 205 = .ok (.if_icmp .lt 6, 3) := by decide +kernel
theorem dX12_room_208 : decode cX12_room 208 = .ok (.goto 11, 3) := by decide +kernel
theorem dX12_room_211 : decode cX12_room 211 = .ok (.iload 10, 2) := by decide +kernel
theorem dX12_room_213 : decode cX12_room 213 = .ok (.istore 5, 2) := by decide +kernel
theorem dX12_room_215 : decode cX12_room 215 = .ok (.iload 9, 2) := by decide +kernel
theorem dX12_room_217 : decode cX12_room 217 = .ok (.istore 4, 2) := by decide +kernel
theorem dX12_room_219 : decode cX12_room 219 = .ok (.iinc 7 1, 3) := by decide +kernel
theorem dX12_room_222 : decode cX12_room 222 = .ok (.goto (-106), 3) := by decide +kernel
theorem dX12_room_225 : decode cX12_room 225 = .ok (.iinc 6 1, 3) := by decide +kernel
theorem dX12_room_228 : decode cX12_room 228 = .ok (.goto (-124), 3) := by decide +kernel
theorem dX12_room_231 : decode cX12_room 231 = .ok (.iload 4, 2) := by decide +kernel
theorem dX12_room_233 : decode cX12_room 233 = .ok (.ifCond .ne 7, 3) := by decide +kernel
theorem dX12_room_236 : decode cX12_room 236 = .ok (.iconst (-1), 1) := by decide +kernel
theorem dX12_room_237 : decode cX12_room 237 = .ok (.goto 14, 3) := by decide +kernel
theorem dX12_room_240 : decode cX12_room 240 = .ok (.iload_n 3, 1) := by decide +kernel
theorem dX12_room_241 : decode cX12_room 241 = .ok (.ifCond .eq 8, 3) := by decide +kernel
theorem dX12_room_244 : decode cX12_room 244 = .ok (.iload 4, 2) := by decide +kernel
theorem dX12_room_246 : decode cX12_room 246 = .ok (.goto 5, 3) := by decide +kernel
theorem dX12_room_249 : decode cX12_room 249 = .ok (.iload 5, 2) := by decide +kernel
theorem dX12_room_251 : decode cX12_room 251 = .ok (.ireturn, 1) := by decide +kernel
theorem dX12_worthOf_0 : decode cX12_worthOf 0 = .ok (.aload_n 0, 1) := by decide +kernel
theorem dX12_worthOf_1 : decode cX12_worthOf 1 = .ok (.iload_n 1, 1) := by decide +kernel
theorem dX12_worthOf_2 : decode cX12_worthOf 2 = .ok (.iload_n 3, 1) := by decide +kernel
theorem dX12_worthOf_3 : decode cX12_worthOf 3 = .ok (.iload_n 2, 1) := by decide +kernel
theorem dX12_worthOf_4 : decode cX12_worthOf 4 = .ok (.invokevirtual 357, 3) := by decide +kernel
theorem dX12_worthOf_7 : decode cX12_worthOf 7 = .ok (.ifCond .eq 40, 3) := by decide +kernel
theorem dX12_worthOf_10 : decode cX12_worthOf 10 = .ok (.aload_n 0, 1) := by decide +kernel
theorem dX12_worthOf_11 : decode cX12_worthOf 11 = .ok (.iload_n 2, 1) := by decide +kernel
theorem dX12_worthOf_12 : decode cX12_worthOf 12 = .ok (.invokevirtual 266, 3) := by decide +kernel
theorem dX12_worthOf_15 : decode cX12_worthOf 15 = .ok (.aload_n 0, 1) := by decide +kernel
theorem dX12_worthOf_16 : decode cX12_worthOf 16 = .ok (.iload_n 1, 1) := by decide +kernel
theorem dX12_worthOf_17 : decode cX12_worthOf 17 = .ok (.iload_n 2, 1) := by decide +kernel
theorem dX12_worthOf_18 : decode cX12_worthOf 18 = .ok (.invokevirtual 254, 3) := by decide +kernel
theorem dX12_worthOf_21 : decode cX12_worthOf 21 = .ok (.ifCond .ne 8, 3) := by decide +kernel
theorem dX12_worthOf_24 : decode cX12_worthOf 24 = .ok (.bipush 17, 2) := by decide +kernel
theorem dX12_worthOf_26 : decode cX12_worthOf 26 = .ok (.goto 12, 3) := by decide +kernel
theorem dX12_worthOf_29 : decode cX12_worthOf 29 = .ok (.aload_n 0, 1) := by decide +kernel
theorem dX12_worthOf_30 : decode cX12_worthOf 30 = .ok (.iload_n 1, 1) := by decide +kernel
theorem dX12_worthOf_31 : decode cX12_worthOf 31 = .ok (.iload_n 2, 1) := by decide +kernel
theorem dX12_worthOf_32 : decode cX12_worthOf 32 = .ok (.invokevirtual 254, 3) := by decide +kernel
theorem dX12_worthOf_35 : decode cX12_worthOf 35 = .ok (.invokestatic 268, 3) := by decide +kernel
theorem dX12_worthOf_38 : decode cX12_worthOf 38 = .ok (.iload_n 3, 1) := by decide +kernel
theorem dX12_worthOf_39 : decode cX12_worthOf 39 = .ok (.invokestatic 268, 3) := by decide +kernel
theorem dX12_worthOf_42 : decode cX12_worthOf 42 = .ok (.isub, 1) := by decide +kernel
theorem dX12_worthOf_43 : decode cX12_worthOf 43 = .ok (.imul, 1) := by decide +kernel
theorem dX12_worthOf_44 : decode cX12_worthOf 44 = .ok (.goto 6, 3) := by decide +kernel
theorem dX12_worthOf_47 : decode cX12_worthOf 47 = .ok (.ldc_w 363, 3) := by decide +kernel
theorem dX12_worthOf_50 : decode cX12_worthOf 50 = .ok (.ireturn, 1) := by decide +kernel
theorem dX12_worth_0 : decode cX12_worth 0 = .ok (.aload_n 0, 1) := by decide +kernel
theorem dX12_worth_1 : decode cX12_worth 1 = .ok (.iconst 0, 1) := by decide +kernel
theorem dX12_worth_2 : decode cX12_worth 2 = .ok (.putfield 3, 3) := by decide +kernel
theorem dX12_worth_5 : decode cX12_worth 5 = .ok (.aload_n 0, 1) := by decide +kernel
theorem dX12_worth_6 : decode cX12_worth 6 = .ok (.aload_n 0, 1) := by decide +kernel
theorem dX12_worth_7 : decode cX12_worth 7 = .ok (.iload_n 1, 1) := by decide +kernel
theorem dX12_worth_8 : decode cX12_worth 8 = .ok (.invokevirtual 257, 3) := by decide +kernel
theorem dX12_worth_11 : decode cX12_worth 11 = .ok (.ifCond .ne 11, 3) := by decide +kernel
theorem dX12_worth_14 : decode cX12_worth 14 = .ok (.aload_n 0, 1) := by decide +kernel
theorem dX12_worth_15 : decode cX12_worth 15 = .ok (.iload_n 2, 1) := by decide +kernel
theorem dX12_worth_16 : decode cX12_worth 16 = .ok (.invokevirtual 263, 3) := by decide +kernel
theorem dX12_worth_19 : decode cX12_worth 19 = .ok (.ifCond .eq 7, 3) := by decide +kernel
theorem dX12_worth_22 : decode cX12_worth 22 = .ok (.iconst 1, 1) := by decide +kernel
theorem dX12_worth_23 : decode cX12_worth 23 = .ok (.goto 4, 3) := by decide +kernel
theorem dX12_worth_26 : decode cX12_worth 26 = .ok (.iconst 0, 1) := by decide +kernel
theorem dX12_worth_27 : decode cX12_worth 27 = .ok (.iconst 1, 1) := by decide +kernel
theorem dX12_worth_28 : decode cX12_worth 28 = .ok (.invokevirtual 242, 3) := by decide +kernel
theorem dX12_worth_31 : decode cX12_worth 31 = .ok (.ifCond .ne 27, 3) := by decide +kernel
theorem dX12_worth_34 : decode cX12_worth 34 = .ok (.aload_n 0, 1) := by decide +kernel
theorem dX12_worth_35 : decode cX12_worth 35 = .ok (.iload_n 3, 1) := by decide +kernel
theorem dX12_worth_36 : decode cX12_worth 36 = .ok (.iconst 2, 1) := by decide +kernel
theorem dX12_worth_37 : decode cX12_worth 37 = .ok (.sipush 511, 3) := by decide +kernel
theorem dX12_worth_40 : decode cX12_worth 40 = .ok (.invokestatic 78, 3) := by decide +kernel
theorem dX12_worth_43 : decode cX12_worth 43 = .ok (.ifCond .ne 7, 3) := by decide +kernel
theorem dX12_worth_46 : decode cX12_worth 46 = .ok (.iconst 1, 1) := by decide +kernel
theorem dX12_worth_47 : decode cX12_worth 47 = .ok (.goto 4, 3) := by decide +kernel
theorem dX12_worth_50 : decode cX12_worth 50 = .ok (.iconst 0, 1) := by decide +kernel
theorem dX12_worth_51 : decode cX12_worth 51 = .ok (.iconst 2, 1) := by decide +kernel
theorem dX12_worth_52 : decode cX12_worth 52 = .ok (.invokevirtual 242, 3) := by decide +kernel
theorem dX12_worth_55 : decode cX12_worth 55 = .ok (.ifCond .eq 7, 3) := by decide +kernel
theorem dX12_worth_58 : decode cX12_worth 58 = .ok (.iconst 0, 1) := by decide +kernel
theorem dX12_worth_59 : decode cX12_worth 59 = .ok (.goto 10, 3) := by decide +kernel
theorem dX12_worth_62 : decode cX12_worth 62 = .ok (.aload_n 0, 1) := by decide +kernel
theorem dX12_worth_63 : decode cX12_worth 63 = .ok (.iload_n 1, 1) := by decide +kernel
theorem dX12_worth_64 : decode cX12_worth 64 = .ok (.iload_n 2, 1) := by decide +kernel
theorem dX12_worth_65 : decode cX12_worth 65 = .ok (.iload_n 3, 1) := by decide +kernel
theorem dX12_worth_66 : decode cX12_worth 66 = .ok (.invokevirtual 364, 3) := by decide +kernel
theorem dX12_worth_69 : decode cX12_worth 69 = .ok (.ireturn, 1) := by decide +kernel
theorem dX12_sale_0 : decode cX12_sale 0 = .ok (.aload_n 0, 1) := by decide +kernel
theorem dX12_sale_1 : decode cX12_sale 1 = .ok (.iconst 0, 1) := by decide +kernel
theorem dX12_sale_2 : decode cX12_sale 2 = .ok (.putfield 3, 3) := by decide +kernel
theorem dX12_sale_5 : decode cX12_sale 5 = .ok (.aload_n 0, 1) := by decide +kernel
theorem dX12_sale_6 : decode cX12_sale 6 = .ok (.aload_n 0, 1) := by decide +kernel
theorem dX12_sale_7 : decode cX12_sale 7 = .ok (.iload_n 1, 1) := by decide +kernel
theorem dX12_sale_8 : decode cX12_sale 8 = .ok (.invokevirtual 263, 3) := by decide +kernel
theorem dX12_sale_11 : decode cX12_sale 11 = .ok (.iconst 1, 1) := by decide +kernel
theorem dX12_sale_12 : decode cX12_sale 12 = .ok (.invokevirtual 242, 3) := by decide +kernel
theorem dX12_sale_15 : decode cX12_sale 15 = .ok (.ifCond .ne 27, 3) := by decide +kernel
theorem dX12_sale_18 : decode cX12_sale 18 = .ok (.aload_n 0, 1) := by decide +kernel
theorem dX12_sale_19 : decode cX12_sale 19 = .ok (.iload_n 2, 1) := by decide +kernel
theorem dX12_sale_20 : decode cX12_sale 20 = .ok (.iconst 2, 1) := by decide +kernel
theorem dX12_sale_21 : decode cX12_sale 21 = .ok (.sipush 511, 3) := by decide +kernel
theorem dX12_sale_24 : decode cX12_sale 24 = .ok (.invokestatic 78, 3) := by decide +kernel
theorem dX12_sale_27 : decode cX12_sale 27 = .ok (.ifCond .ne 7, 3) := by decide +kernel
theorem dX12_sale_30 : decode cX12_sale 30 = .ok (.iconst 1, 1) := by decide +kernel
theorem dX12_sale_31 : decode cX12_sale 31 = .ok (.goto 4, 3) := by decide +kernel
theorem dX12_sale_34 : decode cX12_sale 34 = .ok (.iconst 0, 1) := by decide +kernel
theorem dX12_sale_35 : decode cX12_sale 35 = .ok (.iconst 2, 1) := by decide +kernel
theorem dX12_sale_36 : decode cX12_sale 36 = .ok (.invokevirtual 242, 3) := by decide +kernel
theorem dX12_sale_39 : decode cX12_sale 39 = .ok (.ifCond .eq 5, 3) := by decide +kernel
theorem dX12_sale_42 : decode cX12_sale 42 = .ok (.iconst 0, 1) := by decide +kernel
theorem dX12_sale_43 : decode cX12_sale 43 = .ok (.ireturn, 1) := by decide +kernel
theorem dX12_sale_44 : decode cX12_sale 44 = .ok (.iconst (-1), 1) := by decide +kernel
theorem dX12_sale_45 : decode cX12_sale 45 = .ok (.istore 4, 2) := by decide +kernel
theorem dX12_sale_47 : decode cX12_sale 47 = .ok (.iconst 0, 1) := by decide +kernel
theorem dX12_sale_48 : decode cX12_sale 48 = .ok (.istore 5, 2) := by decide +kernel
theorem dX12_sale_50 : decode cX12_sale 50 = .ok (.iconst 0, 1) := by decide +kernel
theorem dX12_sale_51 : decode cX12_sale 51 = .ok (.istore 6, 2) := by decide +kernel
theorem dX12_sale_53 : decode cX12_sale 53 = .ok (.iload 6, 2) := by decide +kernel
theorem dX12_sale_55 : decode cX12_sale 55 = .ok (.aload_n 0, 1) := by decide +kernel
theorem dX12_sale_56 : decode cX12_sale 56 = .ok (.invokevirtual 74, 3) := by decide +kernel
theorem dX12_sale_59 : decode cX12_sale 59 = .ok (.if_icmp .ge 44, 3) := by decide +kernel
theorem dX12_sale_62 : decode cX12_sale 62 = .ok (.aload_n 0, 1) := by decide +kernel
theorem dX12_sale_63 : decode cX12_sale 63 = .ok (.iload 6, 2) := by decide +kernel
theorem dX12_sale_65 : decode cX12_sale 65 = .ok (.iload_n 1, 1) := by decide +kernel
theorem dX12_sale_66 : decode cX12_sale 66 = .ok (.iload_n 2, 1) := by decide +kernel
theorem dX12_sale_67 : decode cX12_sale 67 = .ok (.invokevirtual 364, 3) := by decide +kernel
theorem dX12_sale_70 : decode cX12_sale 70 = .ok (.istore 7, 2) := by decide +kernel
theorem dX12_sale_72 : decode cX12_sale 72 = .ok (.iload 7, 2) := by decide +kernel
theorem dX12_sale_74 : decode cX12_sale 74 = .ok (.iload 5, 2) := by decide +kernel
theorem dX12_sale_76 : decode cX12_sale 76 = .ok (.if_icmp .le 8, 3) := by decide +kernel
theorem dX12_sale_79 : decode cX12_sale 79 = .ok (.iload 6, 2) := by decide +kernel
theorem dX12_sale_81 : decode cX12_sale 81 = .ok (.goto 5, 3) := by decide +kernel
theorem dX12_sale_84 : decode cX12_sale 84 = .ok (.iload 4, 2) := by decide +kernel
theorem dX12_sale_86 : decode cX12_sale 86 = .ok (.istore 4, 2) := by decide +kernel
theorem dX12_sale_88 : decode cX12_sale 88 = .ok (.iload 5, 2) := by decide +kernel
theorem dX12_sale_90 : decode cX12_sale 90 = .ok (.iload 7, 2) := by decide +kernel
theorem dX12_sale_92 : decode cX12_sale 92 = .ok (.invokestatic 94, 3) := by decide +kernel
theorem dX12_sale_95 : decode cX12_sale 95 = .ok (.istore 5, 2) := by decide +kernel
theorem dX12_sale_97 : decode cX12_sale 97 = .ok (.iinc 6 1, 3) := by decide +kernel
theorem dX12_sale_100 : decode cX12_sale 100 = .ok (.goto (-47), 3) := by decide +kernel
theorem dX12_sale_103 : decode cX12_sale 103 = .ok (.iconst 0, 1) := by decide +kernel
theorem dX12_sale_104 : decode cX12_sale 104 = .ok (.istore 6, 2) := by decide +kernel
theorem dX12_sale_106 : decode cX12_sale 106 = .ok (.iconst 0, 1) := by decide +kernel
theorem dX12_sale_107 : decode cX12_sale 107 = .ok (.istore 7, 2) := by decide +kernel
theorem dX12_sale_109 : decode cX12_sale 109 = .ok (.iload 7, 2) := by decide +kernel
theorem dX12_sale_111 : decode cX12_sale 111 = .ok (.aload_n 0, 1) := by decide +kernel
theorem dX12_sale_112 : decode cX12_sale 112 = .ok (.invokevirtual 74, 3) := by decide +kernel
theorem dX12_sale_115 : decode cX12_sale 115 = .ok (.if_icmp .ge 36, 3) := by decide +kernel
theorem dX12_sale_118 : decode cX12_sale 118 = .ok (.iload 7, 2) := by decide +kernel
theorem dX12_sale_120 : decode cX12_sale 120 = .ok (.iload 4, 2) := by decide +kernel
theorem dX12_sale_122 : decode cX12_sale 122 = .ok (.if_icmp .ne 8, 3) := by decide +kernel
theorem dX12_sale_125 : decode cX12_sale 125 = .ok (.iload 6, 2) := by decide +kernel
theorem dX12_sale_127 : decode cX12_sale 127 = .ok (.goto 16, 3) := by decide +kernel
theorem dX12_sale_130 : decode cX12_sale 130 = .ok (.iload 6, 2) := by decide +kernel
theorem dX12_sale_132 : decode cX12_sale 132 = .ok (.aload_n 0, 1) := by decide +kernel
theorem dX12_sale_133 : decode cX12_sale 133 = .ok (.iload 7, 2) := by decide +kernel
theorem dX12_sale_135 : decode cX12_sale 135 = .ok (.iload_n 1, 1) := by decide +kernel
theorem dX12_sale_136 : decode cX12_sale 136 = .ok (.iload_n 2, 1) := by decide +kernel
theorem dX12_sale_137 : decode cX12_sale 137 = .ok (.invokevirtual 364, 3) := by decide +kernel
theorem dX12_sale_140 : decode cX12_sale 140 = .ok (.invokestatic 94, 3) := by decide +kernel
theorem dX12_sale_143 : decode cX12_sale 143 = .ok (.istore 6, 2) := by decide +kernel
theorem dX12_sale_145 : decode cX12_sale 145 = .ok (.iinc 7 1, 3) := by decide +kernel
theorem dX12_sale_148 : decode cX12_sale 148 = .ok (.goto (-39), 3) := by decide +kernel
theorem dX12_sale_151 : decode cX12_sale 151 = .ok (.iload 4, 2) := by decide +kernel
theorem dX12_sale_153 : decode cX12_sale 153 = .ok (.ifCond .lt 7, 3) := by decide +kernel
theorem dX12_sale_156 : decode cX12_sale 156 = .ok (.iload_n 3, 1) := by decide +kernel
theorem dX12_sale_157 : decode cX12_sale 157 = .ok (.ifCond .ne 8, 3) := by decide +kernel
theorem dX12_sale_160 : decode cX12_sale 160 = .ok (.iload 4, 2) := by decide +kernel
theorem dX12_sale_162 : decode cX12_sale 162 = .ok (.goto 5, 3) := by decide +kernel
theorem dX12_sale_165 : decode cX12_sale 165 = .ok (.iload 6, 2) := by decide +kernel
theorem dX12_sale_167 : decode cX12_sale 167 = .ok (.ireturn, 1) := by decide +kernel
theorem dX12_isRow_0 : decode cX12_isRow 0 = .ok (.aload_n 0, 1) := by decide +kernel
theorem dX12_isRow_1 : decode cX12_isRow 1 = .ok (.iconst 0, 1) := by decide +kernel
theorem dX12_isRow_2 : decode cX12_isRow 2 = .ok (.putfield 367, 3) := by decide +kernel
theorem dX12_isRow_5 : decode cX12_isRow 5 = .ok (.aload_n 0, 1) := by decide +kernel
theorem dX12_isRow_6 : decode cX12_isRow 6 = .ok (.getfield 367, 3) := by decide +kernel
theorem dX12_isRow_9 : decode cX12_isRow 9 = .ok (.aload_n 0, 1) := by decide +kernel
theorem dX12_isRow_10 : decode cX12_isRow 10 = .ok (.getfield 108, 3) := by decide +kernel
theorem dX12_isRow_13 : decode cX12_isRow 13 = .ok (.if_icmp .ge 44, 3) := by decide +kernel
theorem dX12_isRow_16 : decode cX12_isRow 16 = .ok (.aload_n 0, 1) := by decide +kernel
theorem dX12_isRow_17 : decode cX12_isRow 17 = .ok (.getfield 23, 3) := by decide +kernel
theorem dX12_isRow_20 : decode cX12_isRow 20 = .ok (.aload_n 0, 1) := by decide +kernel
theorem dX12_isRow_21 : decode cX12_isRow 21 = .ok (.getfield 367, 3) := by decide +kernel
theorem dX12_isRow_24 : decode cX12_isRow 24 = .ok (.baload, 1) := by decide +kernel
theorem dX12_isRow_25 : decode cX12_isRow 25 = .ok (.bipush 97, 2) := by decide +kernel
theorem dX12_isRow_27 : decode cX12_isRow 27 = .ok (.if_icmp .eq 17, 3) := by decide +kernel
theorem dX12_isRow_30 : decode cX12_isRow 30 = .ok (.aload_n 0, 1) := by decide +kernel
theorem dX12_isRow_31 : decode cX12_isRow 31 = .ok (.getfield 23, 3) := by decide +kernel
theorem dX12_isRow_34 : decode cX12_isRow 34 = .ok (.aload_n 0, 1) := by decide +kernel
theorem dX12_isRow_35 : decode cX12_isRow 35 = .ok (.getfield 367, 3) := by decide +kernel
theorem dX12_isRow_38 : decode cX12_isRow 38 = .ok (.baload, 1) := by decide +kernel
theorem dX12_isRow_39 : decode cX12_isRow 39 = .ok (.bipush 98, 2) := by decide +kernel
theorem dX12_isRow_41 : decode cX12_isRow 41 = .ok (.if_icmp .ne 16, 3) := by decide +kernel
theorem dX12_isRow_44 : decode cX12_isRow 44 = .ok (.aload_n 0, 1) := by decide +kernel
theorem dX12_isRow_45 : decode cX12_isRow 45 = .ok (.dup, 1) := by decide +kernel
theorem dX12_isRow_46 : decode cX12_isRow 46 = .ok (.getfield 367, 3) := by decide +kernel
theorem dX12_isRow_49 : decode cX12_isRow 49 = .ok (.iconst 1, 1) := by decide +kernel
theorem dX12_isRow_50 : decode cX12_isRow 50 = .ok (.iadd, 1) := by decide +kernel
theorem dX12_isRow_51 : decode cX12_isRow 51 = .ok (.putfield 367, 3) := by decide +kernel
theorem dX12_isRow_54 : decode cX12_isRow 54 = .ok (.goto (-49), 3) := by decide +kernel
theorem dX12_isRow_57 : decode cX12_isRow 57 = .ok (.aload_n 0, 1) := by decide +kernel
theorem dX12_isRow_58 : decode cX12_isRow 58 = .ok (.getfield 108, 3) := by decide +kernel
theorem dX12_isRow_61 : decode cX12_isRow 61 = .ok (.aload_n 0, 1) := by decide +kernel
theorem dX12_isRow_62 : decode cX12_isRow 62 = .ok (.getfield 367, 3) := by decide +kernel
theorem dX12_isRow_65 : decode cX12_isRow 65 = .ok (.isub, 1) := by decide +kernel
theorem dX12_isRow_66 : decode cX12_isRow 66 = .ok (.iconst 1, 1) := by decide +kernel
theorem dX12_isRow_67 : decode cX12_isRow 67 = .ok (.isub, 1) := by decide +kernel
theorem dX12_isRow_68 : decode cX12_isRow 68 = .ok (.istore_n 1, 1) := by decide +kernel
theorem dX12_isRow_69 : decode cX12_isRow 69 = .ok (.aload_n 0, 1) := by decide +kernel
theorem dX12_isRow_70 : decode cX12_isRow 70 = .ok (.getfield 367, 3) := by decide +kernel
theorem dX12_isRow_73 : decode cX12_isRow 73 = .ok (.iconst 1, 1) := by decide +kernel
theorem dX12_isRow_74 : decode cX12_isRow 74 = .ok (.bipush 20, 2) := by decide +kernel
theorem dX12_isRow_76 : decode cX12_isRow 76 = .ok (.invokestatic 78, 3) := by decide +kernel
theorem dX12_isRow_79 : decode cX12_isRow 79 = .ok (.ifCond .eq 27, 3) := by decide +kernel
theorem dX12_isRow_82 : decode cX12_isRow 82 = .ok (.iload_n 1, 1) := by decide +kernel
theorem dX12_isRow_83 : decode cX12_isRow 83 = .ok (.iconst 1, 1) := by decide +kernel
theorem dX12_isRow_84 : decode cX12_isRow 84 = .ok (.bipush 6, 2) := by decide +kernel
theorem dX12_isRow_86 : decode cX12_isRow 86 = .ok (.invokestatic 78, 3) := by decide +kernel
theorem dX12_isRow_89 : decode cX12_isRow 89 = .ok (.ifCond .eq 17, 3) := by decide +kernel
theorem dX12_isRow_92 : decode cX12_isRow 92 = .ok (.aload_n 0, 1) := by decide +kernel
theorem dX12_isRow_93 : decode cX12_isRow 93 = .ok (.getfield 23, 3) := by decide +kernel
theorem dX12_isRow_96 : decode cX12_isRow 96 = .ok (.aload_n 0, 1) := by decide +kernel
theorem dX12_isRow_97 : decode cX12_isRow 97 = .ok (.getfield 367, 3) := by decide +kernel
theorem dX12_isRow_100 : decode cX12_isRow 100 = .ok (.baload, 1) := by decide +kernel
theorem dX12_isRow_101 : decode cX12_isRow 101 = .ok (.bipush 32, 2) := by decide +kernel
theorem dX12_isRow_103 : decode cX12_isRow 103 = .ok (.if_icmp .eq 5, 3) := by decide +kernel
theorem dX12_isRow_106 : decode cX12_isRow 106 = .ok (.iconst 0, 1) := by decide +kernel
theorem dX12_isRow_107 : decode cX12_isRow 107 = .ok (.ireturn, 1) := by decide +kernel
theorem dX12_isRow_108 : decode cX12_isRow 108 = .ok (.aload_n 0, 1) := by decide +kernel
theorem dX12_isRow_109 : decode cX12_isRow 109 = .ok (.iconst 0, 1) := by decide +kernel
theorem dX12_isRow_110 : decode cX12_isRow 110 = .ok (.putfield 370, 3) := by decide +kernel
theorem dX12_isRow_113 : decode cX12_isRow 113 = .ok (.aload_n 0, 1) := by decide +kernel
theorem dX12_isRow_114 : decode cX12_isRow 114 = .ok (.getfield 367, 3) := by decide +kernel
theorem dX12_isRow_117 : decode cX12_isRow 117 = .ok (.iconst 1, 1) := by decide +kernel
theorem dX12_isRow_118 : decode cX12_isRow 118 = .ok (.iadd, 1) := by decide +kernel
theorem dX12_isRow_119 : decode cX12_isRow 119 = .ok (.istore_n 2, 1) := by decide +kernel
theorem dX12_isRow_120 : decode cX12_isRow 120 = .ok (.iload_n 2, 1) := by decide +kernel
theorem dX12_isRow_121 : decode cX12_isRow 121 = .ok (.aload_n 0, 1) := by decide +kernel
theorem dX12_isRow_122 : decode cX12_isRow 122 = .ok (.getfield 108, 3) := by decide +kernel
theorem dX12_isRow_125 : decode cX12_isRow 125 = .ok (.if_icmp .ge 84, 3) := by decide +kernel
theorem dX12_isRow_128 : decode cX12_isRow 128 = .ok (.aload_n 0, 1) := by decide +kernel
theorem dX12_isRow_129 : decode cX12_isRow 129 = .ok (.getfield 23, 3) := by decide +kernel
theorem dX12_isRow_132 : decode cX12_isRow 132 = .ok (.iload_n 2, 1) := by decide +kernel
theorem dX12_isRow_133 : decode cX12_isRow 133 = .ok (.baload, 1) := by decide +kernel
theorem dX12_isRow_134 : decode cX12_isRow 134 = .ok (.bipush 65, 2) := by decide +kernel
theorem dX12_isRow_136 : decode cX12_isRow 136 = .ok (.if_icmp .lt 14, 3) := by decide +kernel
theorem dX12_isRow_139 : decode cX12_isRow 139 = .ok (.aload_n 0, 1) := by decide +kernel
theorem dX12_isRow_140 : decode cX12_isRow 140 = .ok (.getfield 23, 3) := by decide +kernel
theorem dX12_isRow_143 : decode cX12_isRow 143 = .ok (.iload_n 2, 1) := by decide +kernel
theorem dX12_isRow_144 : decode cX12_isRow 144 = .ok (.baload, 1) := by decide +kernel
theorem dX12_isRow_145 : decode cX12_isRow 145 = .ok (.bipush 90, 2) := by decide +kernel
theorem dX12_isRow_147 : decode cX12_isRow 147 = .ok (.if_icmp .le 5, 3) := by decide +kernel
theorem dX12_isRow_150 : decode cX12_isRow 150 = .ok (.iconst 0, 1) := by decide +kernel
theorem dX12_isRow_151 : decode cX12_isRow 151 = .ok (.ireturn, 1) := by decide +kernel
theorem dX12_isRow_152 : decode cX12_isRow 152 = .ok (.aload_n 0, 1) := by decide +kernel
theorem dX12_isRow_153 : decode cX12_isRow 153 = .ok (.aload_n 0, 1) := by decide +kernel
theorem dX12_isRow_154 : decode cX12_isRow 154 = .ok (.getfield 23, 3) := by decide +kernel
theorem dX12_isRow_157 : decode cX12_isRow 157 = .ok (.iload_n 2, 1) := by decide +kernel
theorem dX12_isRow_158 : decode cX12_isRow 158 = .ok (.baload, 1) := by decide +kernel
theorem dX12_isRow_159 : decode cX12_isRow 159 = .ok (.invokevirtual 373, 3) := by decide +kernel
theorem dX12_isRow_162 : decode cX12_isRow 162 = .ok (.ifCond .lt 6, 3) := by decide +kernel
theorem dX12_isRow_165 : decode cX12_isRow 165 = .ok (.goto 38, 3) := by decide +kernel
theorem dX12_isRow_168 : decode cX12_isRow 168 = .ok (.aload_n 0, 1) := by decide +kernel
theorem dX12_isRow_169 : decode cX12_isRow 169 = .ok (.getfield 370, 3) := by decide +kernel
theorem dX12_isRow_172 : decode cX12_isRow 172 = .ok (.iconst 3, 1) := by decide +kernel
theorem dX12_isRow_173 : decode cX12_isRow 173 = .ok (.if_icmp .ne 5, 3) := by decide +kernel
theorem dX12_isRow_176 : decode cX12_isRow 176 = .ok (.iconst 0, 1) := by decide +kernel
theorem dX12_isRow_177 : decode cX12_isRow 177 = .ok (.ireturn, 1) := by decide +kernel
theorem dX12_isRow_178 : decode cX12_isRow 178 = .ok (.aload_n 0, 1) := by decide +kernel
theorem dX12_isRow_179 : decode cX12_isRow 179 = .ok (.getfield 57, 3) := by decide +kernel
theorem dX12_isRow_182 : decode cX12_isRow 182 = .ok (.aload_n 0, 1) := by decide +kernel
theorem dX12_isRow_183 : decode cX12_isRow 183 = .ok (.getfield 370, 3) := by decide +kernel
theorem dX12_isRow_186 : decode cX12_isRow 186 = .ok (.aload_n 0, 1) := by decide +kernel
theorem dX12_isRow_187 : decode cX12_isRow 187 = .ok (.getfield 23, 3) := by decide +kernel
theorem dX12_isRow_190 : decode cX12_isRow 190 = .ok (.iload_n 2, 1) := by decide +kernel
theorem dX12_isRow_191 : decode cX12_isRow 191 = .ok (.baload, 1) := by decide +kernel
theorem dX12_isRow_192 : decode cX12_isRow 192 = .ok (.iastore, 1) := by decide +kernel
theorem dX12_isRow_193 : decode cX12_isRow 193 = .ok (.aload_n 0, 1) := by decide +kernel
theorem dX12_isRow_194 : decode cX12_isRow 194 = .ok (.dup, 1) := by decide +kernel
theorem dX12_isRow_195 : decode cX12_isRow 195 = .ok (.getfield 370, 3) := by decide +kernel
theorem dX12_isRow_198 : decode cX12_isRow 198 = .ok (.iconst 1, 1) := by decide +kernel
theorem dX12_isRow_199 : decode cX12_isRow 199 = .ok (.iadd, 1) := by decide +kernel
theorem dX12_isRow_200 : decode cX12_isRow 200 = .ok (.putfield 370, 3) := by decide +kernel
theorem dX12_isRow_203 : decode cX12_isRow 203 = .ok (.iinc 2 1, 3) := by decide +kernel
theorem dX12_isRow_206 : decode cX12_isRow 206 = .ok (.goto (-86), 3) := by decide +kernel
theorem dX12_isRow_209 : decode cX12_isRow 209 = .ok (.iconst 1, 1) := by decide +kernel
theorem dX12_isRow_210 : decode cX12_isRow 210 = .ok (.ireturn, 1) := by decide +kernel
theorem dX12_kindOf_0 : decode cX12_kindOf 0 = .ok (.iconst 0, 1) := by decide +kernel
theorem dX12_kindOf_1 : decode cX12_kindOf 1 = .ok (.istore_n 2, 1) := by decide +kernel
theorem dX12_kindOf_2 : decode cX12_kindOf 2 = .ok (.iload_n 2, 1) := by decide +kernel
theorem dX12_kindOf_3 : decode cX12_kindOf 3 = .ok (.aload_n 0, 1) := by decide +kernel
theorem dX12_kindOf_4 : decode cX12_kindOf 4 = .ok (.getfield 370, 3) := by decide +kernel
theorem dX12_kindOf_7 : decode cX12_kindOf 7 = .ok (.if_icmp .ge 21, 3) := by decide +kernel
theorem dX12_kindOf_10 : decode cX12_kindOf 10 = .ok (.aload_n 0, 1) := by decide +kernel
theorem dX12_kindOf_11 : decode cX12_kindOf 11 = .ok (.getfield 57, 3) := by decide +kernel
theorem dX12_kindOf_14 : decode cX12_kindOf 14 = .ok (.iload_n 2, 1) := by decide +kernel
theorem dX12_kindOf_15 : decode cX12_kindOf 15 = .ok (.iaload, 1) := by decide +kernel
theorem dX12_kindOf_16 : decode cX12_kindOf 16 = .ok (.iload_n 1, 1) := by decide +kernel
theorem dX12_kindOf_17 : decode cX12_kindOf 17 = .ok (.if_icmp .ne 5, 3) := by decide +kernel
theorem dX12_kindOf_20 : decode cX12_kindOf 20 = .ok (.iload_n 2, 1) := by decide +kernel
theorem dX12_kindOf_21 : decode cX12_kindOf 21 = .ok (.ireturn, 1) := by decide +kernel
theorem dX12_kindOf_22 : decode cX12_kindOf 22 = .ok (.iinc 2 1, 3) := by decide +kernel
theorem dX12_kindOf_25 : decode cX12_kindOf 25 = .ok (.goto (-23), 3) := by decide +kernel
theorem dX12_kindOf_28 : decode cX12_kindOf 28 = .ok (.iconst (-1), 1) := by decide +kernel
theorem dX12_kindOf_29 : decode cX12_kindOf 29 = .ok (.ireturn, 1) := by decide +kernel
theorem dX12_isTold_0 : decode cX12_isTold 0 = .ok (.iconst 0, 1) := by decide +kernel
theorem dX12_isTold_1 : decode cX12_isTold 1 = .ok (.istore_n 1, 1) := by decide +kernel
theorem dX12_isTold_2 : decode cX12_isTold 2 = .ok (.iload_n 1, 1) := by decide +kernel
theorem dX12_isTold_3 : decode cX12_isTold 3 = .ok (.aload_n 0, 1) := by decide +kernel
theorem dX12_isTold_4 : decode cX12_isTold 4 = .ok (.getfield 370, 3) := by decide +kernel
theorem dX12_isTold_7 : decode cX12_isTold 7 = .ok (.if_icmp .ge 39, 3) := by decide +kernel
theorem dX12_isTold_10 : decode cX12_isTold 10 = .ok (.iconst 0, 1) := by decide +kernel
theorem dX12_isTold_11 : decode cX12_isTold 11 = .ok (.istore_n 2, 1) := by decide +kernel
theorem dX12_isTold_12 : decode cX12_isTold 12 = .ok (.iload_n 2, 1) := by decide +kernel
theorem dX12_isTold_13 : decode cX12_isTold 13 = .ok (.iload_n 1, 1) := by decide +kernel
theorem dX12_isTold_14 : decode cX12_isTold 14 = .ok (.if_icmp .ge 26, 3) := by decide +kernel
theorem dX12_isTold_17 : decode cX12_isTold 17 = .ok (.aload_n 0, 1) := by decide +kernel
theorem dX12_isTold_18 : decode cX12_isTold 18 = .ok (.getfield 60, 3) := by decide +kernel
theorem dX12_isTold_21 : decode cX12_isTold 21 = .ok (.iload_n 1, 1) := by decide +kernel
theorem dX12_isTold_22 : decode cX12_isTold 22 = .ok (.iaload, 1) := by decide +kernel
theorem dX12_isTold_23 : decode cX12_isTold 23 = .ok (.aload_n 0, 1) := by decide +kernel
theorem dX12_isTold_24 : decode cX12_isTold 24 = .ok (.getfield 60, 3) := by decide +kernel
theorem dX12_isTold_27 : decode cX12_isTold 27 = .ok (.iload_n 2, 1) := by decide +kernel
theorem dX12_isTold_28 : decode cX12_isTold 28 = .ok (.iaload, 1) := by decide +kernel
theorem dX12_isTold_29 : decode cX12_isTold 29 = .ok (.if_icmp .ne 5, 3) := by decide +kernel
theorem dX12_isTold_32 : decode cX12_isTold 32 = .ok (.iconst 0, 1) := by decide +kernel
theorem dX12_isTold_33 : decode cX12_isTold 33 = .ok (.ireturn, 1) := by decide +kernel
theorem dX12_isTold_34 : decode cX12_isTold 34 = .ok (.iinc 2 1, 3) := by decide +kernel
theorem dX12_isTold_37 : decode cX12_isTold 37 = .ok (.goto (-25), 3) := by decide +kernel
theorem dX12_isTold_40 : decode cX12_isTold 40 = .ok (.iinc 1 1, 3) := by decide +kernel
theorem dX12_isTold_43 : decode cX12_isTold 43 = .ok (.goto (-41), 3) := by decide +kernel
theorem dX12_isTold_46 : decode cX12_isTold 46 = .ok (.iconst 0, 1) := by decide +kernel
theorem dX12_isTold_47 : decode cX12_isTold 47 = .ok (.istore_n 1, 1) := by decide +kernel
theorem dX12_isTold_48 : decode cX12_isTold 48 = .ok (.aload_n 0, 1) := by decide +kernel
theorem dX12_isTold_49 : decode cX12_isTold 49 = .ok (.getfield 367, 3) := by decide +kernel
theorem dX12_isTold_52 : decode cX12_isTold 52 = .ok (.iconst 1, 1) := by decide +kernel
theorem dX12_isTold_53 : decode cX12_isTold 53 = .ok (.iadd, 1) := by decide +kernel
theorem dX12_isTold_54 : decode cX12_isTold 54 = .ok (.istore_n 2, 1) := by decide +kernel
theorem dX12_isTold_55 : decode cX12_isTold 55 = .ok (.iload_n 2, 1) := by decide +kernel
theorem dX12_isTold_56 : decode cX12_isTold 56 = .ok (.aload_n 0, 1) := by decide +kernel
theorem dX12_isTold_57 : decode cX12_isTold 57 = .ok (.getfield 108, 3) := by decide +kernel
theorem dX12_isTold_60 : decode cX12_isTold 60 = .ok (.if_icmp .ge 75, 3) := by decide +kernel
theorem dX12_isTold_63 : decode cX12_isTold 63 = .ok (.aload_n 0, 1) := by decide +kernel
theorem dX12_isTold_64 : decode cX12_isTold 64 = .ok (.getfield 60, 3) := by decide +kernel
theorem dX12_isTold_67 : decode cX12_isTold 67 = .ok (.aload_n 0, 1) := by decide +kernel
theorem dX12_isTold_68 : decode cX12_isTold 68 = .ok (.aload_n 0, 1) := by decide +kernel
theorem dX12_isTold_69 : decode cX12_isTold 69 = .ok (.getfield 23, 3) := by decide +kernel
theorem dX12_isTold_72 : decode cX12_isTold 72 = .ok (.iload_n 2, 1) := by decide +kernel
theorem dX12_isTold_73 : decode cX12_isTold 73 = .ok (.baload, 1) := by decide +kernel
theorem dX12_isTold_74 : decode cX12_isTold 74 = .ok (.invokevirtual 373, 3) := by decide +kernel
theorem dX12_isTold_77 : decode cX12_isTold 77 = .ok (.iaload, 1) := by decide +kernel
theorem dX12_isTold_78 : decode cX12_isTold 78 = .ok (.istore_n 3, 1) := by decide +kernel
theorem dX12_isTold_79 : decode cX12_isTold 79 = .ok (.iload_n 3, 1) := by decide +kernel
theorem dX12_isTold_80 : decode cX12_isTold 80 = .ok (.invokestatic 85, 3) := by decide +kernel
theorem dX12_isTold_83 : decode cX12_isTold 83 = .ok (.iconst 1, 1) := by decide +kernel
theorem dX12_isTold_84 : decode cX12_isTold 84 = .ok (.isub, 1) := by decide +kernel
theorem dX12_isTold_85 : decode cX12_isTold 85 = .ok (.istore 4, 2) := by decide +kernel
theorem dX12_isTold_87 : decode cX12_isTold 87 = .ok (.iload 4, 2) := by decide +kernel
theorem dX12_isTold_89 : decode cX12_isTold 89 = .ok (.ifCond .lt 40, 3) := by decide +kernel
theorem dX12_isTold_92 : decode cX12_isTold 92 = .ok (.iload_n 1, 1) := by decide +kernel
theorem dX12_isTold_93 : decode cX12_isTold 93 = .ok (.aload_n 0, 1) := by decide +kernel
theorem dX12_isTold_94 : decode cX12_isTold 94 = .ok (.getfield 367, 3) := by decide +kernel
theorem dX12_isTold_97 : decode cX12_isTold 97 = .ok (.if_icmp .eq 21, 3) := by decide +kernel
theorem dX12_isTold_100 : decode cX12_isTold 100 = .ok (.aload_n 0, 1) := by decide +kernel
theorem dX12_isTold_101 : decode cX12_isTold 101 = .ok (.getfield 23, 3) := by decide +kernel
theorem dX12_isTold_104 : decode cX12_isTold 104 = .ok (.iload_n 1, 1) := by decide +kernel
theorem dX12_isTold_105 : decode cX12_isTold 105 = .ok (.baload, 1) := by decide +kernel
theorem dX12_isTold_106 : decode cX12_isTold 106 = .ok (.bipush 97, 2) := by decide +kernel
theorem dX12_isTold_108 : decode cX12_isTold 108 = .ok (.isub, 1) := by decide +kernel
theorem dX12_isTold_109 : decode cX12_isTold 109 = .ok (.iload_n 3, 1) := by decide +kernel
theorem dX12_isTold_110 : decode cX12_isTold 110 = .ok (.iload 4, 2) := by decide +kernel
theorem dX12_isTold_112 : decode cX12_isTold 112 = .ok (.ishr, 1) := by decide +kernel
theorem dX12_isTold_113 : decode cX12_isTold 113 = .ok (.iconst 1, 1) := by decide +kernel
theorem dX12_isTold_114 : decode cX12_isTold 114 = .ok (.iand, 1) := by decide +kernel
theorem dX12_isTold_115 : decode cX12_isTold 115 = .ok (.if_icmp .eq 5, 3) := by decide +kernel
theorem dX12_isTold_118 : decode cX12_isTold 118 = .ok (.iconst 0, 1) := by decide +kernel
theorem dX12_isTold_119 : decode cX12_isTold 119 = .ok (.ireturn, 1) := by decide +kernel
theorem dX12_isTold_120 : decode cX12_isTold 120 = .ok (.iinc 1 1, 3) := by decide +kernel
theorem dX12_isTold_123 : decode cX12_isTold 123 = .ok (.iinc 4 (-1), 3) := by decide +kernel
theorem dX12_isTold_126 : decode cX12_isTold 126 = .ok (.goto (-39), 3) := by decide +kernel
theorem dX12_isTold_129 : decode cX12_isTold 129 = .ok (.iinc 2 1, 3) := by decide +kernel
theorem dX12_isTold_132 : decode cX12_isTold 132 = .ok (.goto (-77), 3) := by decide +kernel
theorem dX12_isTold_135 : decode cX12_isTold 135 = .ok (.iload_n 1, 1) := by decide +kernel
theorem dX12_isTold_136 : decode cX12_isTold 136 = .ok (.aload_n 0, 1) := by decide +kernel
theorem dX12_isTold_137 : decode cX12_isTold 137 = .ok (.getfield 367, 3) := by decide +kernel
theorem dX12_isTold_140 : decode cX12_isTold 140 = .ok (.if_icmp .ne 7, 3) := by decide +kernel
theorem dX12_isTold_143 : decode cX12_isTold 143 = .ok (.iconst 1, 1) := by decide +kernel
theorem dX12_isTold_144 : decode cX12_isTold 144 = .ok (.goto 4, 3) := by decide +kernel
theorem dX12_isTold_147 : decode cX12_isTold 147 = .ok (.iconst 0, 1) := by decide +kernel
theorem dX12_isTold_148 : decode cX12_isTold 148 = .ok (.ireturn, 1) := by decide +kernel
theorem dX12_learn_0 : decode cX12_learn 0 = .ok (.aload_n 0, 1) := by decide +kernel
theorem dX12_learn_1 : decode cX12_learn 1 = .ok (.invokevirtual 231, 3) := by decide +kernel
theorem dX12_learn_4 : decode cX12_learn 4 = .ok (.aload_n 0, 1) := by decide +kernel
theorem dX12_learn_5 : decode cX12_learn 5 = .ok (.invokevirtual 376, 3) := by decide +kernel
theorem dX12_learn_8 : decode cX12_learn 8 = .ok (.istore_n 2, 1) := by decide +kernel
theorem dX12_learn_9 : decode cX12_learn 9 = .ok (.aload_n 0, 1) := by decide +kernel
theorem dX12_learn_10 : decode cX12_learn 10 = .ok (.iload_n 2, 1) := by decide +kernel
theorem dX12_learn_11 : decode cX12_learn 11 = .ok (.ifCond .eq 22, 3) := by decide +kernel
theorem dX12_learn_14 : decode cX12_learn 14 = .ok (.iload_n 1, 1) := by decide +kernel
theorem dX12_learn_15 : decode cX12_learn 15 = .ok (.iconst (-1), 1) := by decide +kernel
theorem dX12_learn_16 : decode cX12_learn 16 = .ok (.if_icmp .eq 21, 3) := by decide +kernel
theorem dX12_learn_19 : decode cX12_learn 19 = .ok (.iload_n 1, 1) := by decide +kernel
theorem dX12_learn_20 : decode cX12_learn 20 = .ok (.iconst 0, 1) := by decide +kernel
theorem dX12_learn_21 : decode cX12_learn 21 = .ok (.aload_n 0, 1) := by decide +kernel
theorem dX12_learn_22 : decode cX12_learn 22 = .ok (.getfield 370, 3) := by decide +kernel
theorem dX12_learn_25 : decode cX12_learn 25 = .ok (.iconst 1, 1) := by decide +kernel
theorem dX12_learn_26 : decode cX12_learn 26 = .ok (.isub, 1) := by decide +kernel
theorem dX12_learn_27 : decode cX12_learn 27 = .ok (.invokestatic 78, 3) := by decide +kernel
theorem dX12_learn_30 : decode cX12_learn 30 = .ok (.ifCond .ne 7, 3) := by decide +kernel
theorem dX12_learn_33 : decode cX12_learn 33 = .ok (.iconst 1, 1) := by decide +kernel
theorem dX12_learn_34 : decode cX12_learn 34 = .ok (.goto 4, 3) := by decide +kernel
theorem dX12_learn_37 : decode cX12_learn 37 = .ok (.iconst 0, 1) := by decide +kernel
theorem dX12_learn_38 : decode cX12_learn 38 = .ok (.iconst 1, 1) := by decide +kernel
theorem dX12_learn_39 : decode cX12_learn 39 = .ok (.invokevirtual 242, 3) := by decide +kernel
theorem dX12_learn_42 : decode cX12_learn 42 = .ok (.ifCond .eq 5, 3) := by decide +kernel
theorem dX12_learn_45 : decode cX12_learn 45 = .ok (.iconst 0, 1) := by decide +kernel
theorem dX12_learn_46 : decode cX12_learn 46 = .ok (.ireturn, 1) := by decide +kernel
theorem dX12_learn_47 : decode cX12_learn 47 = .ok (.iconst 1, 1) := by decide +kernel
theorem dX12_learn_48 : decode cX12_learn 48 = .ok (.istore_n 3, 1) := by decide +kernel
theorem dX12_learn_49 : decode cX12_learn 49 = .ok (.iconst 0, 1) := by decide +kernel
theorem dX12_learn_50 : decode cX12_learn 50 = .ok (.istore 4, 2) := by decide +kernel
theorem dX12_learn_52 : decode cX12_learn 52 = .ok (.iload 4, 2) := by decide +kernel
theorem dX12_learn_54 : decode cX12_learn 54 = .ok (.aload_n 0, 1) := by decide +kernel
theorem dX12_learn_55 : decode cX12_learn 55 = .ok (.getfield 370, 3) := by decide +kernel
theorem dX12_learn_58 : decode cX12_learn 58 = .ok (.if_icmp .ge 14, 3) := by decide +kernel
theorem dX12_learn_61 : decode cX12_learn 61 = .ok (.iload_n 3, 1) := by decide +kernel
theorem dX12_learn_62 : decode cX12_learn 62 = .ok (.bipush 16, 2) := by decide +kernel
theorem dX12_learn_64 : decode cX12_learn 64 = .ok (.imul, 1) := by decide +kernel
theorem dX12_learn_65 : decode cX12_learn 65 = .ok (.istore_n 3, 1) := by decide +kernel
theorem dX12_learn_66 : decode cX12_learn 66 = .ok (.iinc 4 1, 3) := by decide +kernel
theorem dX12_learn_69 : decode cX12_learn 69 = .ok (.goto (-17), 3) := by decide +kernel
theorem dX12_learn_72 : decode cX12_learn 72 = .ok (.iconst 0, 1) := by decide +kernel
theorem dX12_learn_73 : decode cX12_learn 73 = .ok (.istore 4, 2) := by decide +kernel
theorem dX12_learn_75 : decode cX12_learn 75 = .ok (.iconst 0, 1) := by decide +kernel
theorem dX12_learn_76 : decode cX12_learn 76 = .ok (.istore 5, 2) := by decide +kernel
theorem dX12_learn_78 : decode cX12_learn 78 = .ok (.iload 5, 2) := by decide +kernel
theorem dX12_learn_80 : decode cX12_learn 80 = .ok (.iload_n 3, 1) := by decide +kernel
theorem dX12_learn_81 : decode cX12_learn 81 = .ok (.if_icmp .ge 132, 3) := by decide +kernel
theorem dX12_learn_84 : decode cX12_learn 84 = .ok (.iload 5, 2) := by decide +kernel
theorem dX12_learn_86 : decode cX12_learn 86 = .ok (.istore 6, 2) := by decide +kernel
theorem dX12_learn_88 : decode cX12_learn 88 = .ok (.iconst 1, 1) := by decide +kernel
theorem dX12_learn_89 : decode cX12_learn 89 = .ok (.istore 7, 2) := by decide +kernel
theorem dX12_learn_91 : decode cX12_learn 91 = .ok (.aload_n 0, 1) := by decide +kernel
theorem dX12_learn_92 : decode cX12_learn 92 = .ok (.getfield 370, 3) := by decide +kernel
theorem dX12_learn_95 : decode cX12_learn 95 = .ok (.iconst 1, 1) := by decide +kernel
theorem dX12_learn_96 : decode cX12_learn 96 = .ok (.isub, 1) := by decide +kernel
theorem dX12_learn_97 : decode cX12_learn 97 = .ok (.istore 8, 2) := by decide +kernel
theorem dX12_learn_99 : decode cX12_learn 99 = .ok (.iload 8, 2) := by decide +kernel
theorem dX12_learn_101 : decode cX12_learn 101 = .ok (.ifCond .lt 51, 3) := by decide +kernel
theorem dX12_learn_104 : decode cX12_learn 104 = .ok (.aload_n 0, 1) := by decide +kernel
theorem dX12_learn_105 : decode cX12_learn 105 = .ok (.getfield 60, 3) := by decide +kernel
theorem dX12_learn_108 : decode cX12_learn 108 = .ok (.iload 8, 2) := by decide +kernel
theorem dX12_learn_110 : decode cX12_learn 110 = .ok (.iload 6, 2) := by decide +kernel
theorem dX12_learn_112 : decode cX12_learn 112 = .ok (.bipush 16, 2) := by decide +kernel
theorem dX12_learn_114 : decode cX12_learn 114 = .ok (.irem, 1) := by decide +kernel
theorem dX12_learn_115 : decode cX12_learn 115 = .ok (.iastore, 1) := by decide +kernel
theorem dX12_learn_116 : decode cX12_learn 116 = .ok (.iload 7, 2) := by decide +kernel
theorem dX12_learn_118 : decode cX12_learn 118 = .ok (.ifCond .eq 18, 3) := by decide +kernel
theorem dX12_learn_121 : decode cX12_learn 121 = .ok (.aload_n 0, 1) := by decide +kernel
theorem dX12_learn_122 : decode cX12_learn 122 = .ok (.getfield 60, 3) := by decide +kernel
theorem dX12_learn_125 : decode cX12_learn 125 = .ok (.iload 8, 2) := by decide +kernel
theorem dX12_learn_127 : decode cX12_learn 127 = .ok (.iaload, 1) := by decide +kernel
theorem dX12_learn_128 : decode cX12_learn 128 = .ok (.iconst 1, 1) := by decide +kernel
theorem dX12_learn_129 : decode cX12_learn 129 = .ok (.if_icmp .le 7, 3) := by decide +kernel
theorem dX12_learn_132 : decode cX12_learn 132 = .ok (.iconst 1, 1) := by decide +kernel
theorem dX12_learn_133 : decode cX12_learn 133 = .ok (.goto 4, 3) := by decide +kernel
theorem dX12_learn_136 : decode cX12_learn 136 = .ok (.iconst 0, 1) := by decide +kernel
theorem dX12_learn_137 : decode cX12_learn 137 = .ok (.istore 7, 2) := by decide +kernel
theorem dX12_learn_139 : decode cX12_learn 139 = .ok (.iload 6, 2) := by decide +kernel
theorem dX12_learn_141 : decode cX12_learn 141 = .ok (.bipush 16, 2) := by decide +kernel
theorem dX12_learn_143 : decode cX12_learn 143 = .ok (.idiv, 1) := by decide +kernel
theorem dX12_learn_144 : decode cX12_learn 144 = .ok (.istore 6, 2) := by decide +kernel
theorem dX12_learn_146 : decode cX12_learn 146 = .ok (.iinc 8 (-1), 3) := by decide +kernel
theorem dX12_learn_149 : decode cX12_learn 149 = .ok (.goto (-50), 3) := by decide +kernel
theorem dX12_learn_152 : decode cX12_learn 152 = .ok (.iload 7, 2) := by decide +kernel
theorem dX12_learn_154 : decode cX12_learn 154 = .ok (.ifCond .eq 53, 3) := by decide +kernel
theorem dX12_learn_157 : decode cX12_learn 157 = .ok (.aload_n 0, 1) := by decide +kernel
theorem dX12_learn_158 : decode cX12_learn 158 = .ok (.invokevirtual 379, 3) := by decide +kernel
theorem dX12_learn_161 : decode cX12_learn 161 = .ok (.ifCond .ne 6, 3) := by decide +kernel
theorem dX12_learn_164 : decode cX12_learn 164 = .ok (.goto 43, 3) := by decide +kernel
theorem dX12_learn_167 : decode cX12_learn 167 = .ok (.iconst 0, 1) := by decide +kernel
theorem dX12_learn_168 : decode cX12_learn 168 = .ok (.istore 8, 2) := by decide +kernel
theorem dX12_learn_170 : decode cX12_learn 170 = .ok (.iload 8, 2) := by decide +kernel
theorem dX12_learn_172 : decode cX12_learn 172 = .ok (.aload_n 0, 1) := by decide +kernel
theorem dX12_learn_173 : decode cX12_learn 173 = .ok (.getfield 370, 3) := by decide +kernel
theorem dX12_learn_176 : decode cX12_learn 176 = .ok (.if_icmp .ge 28, 3) := by decide +kernel
theorem dX12_learn_179 : decode cX12_learn 179 = .ok (.iload 4, 2) := by decide +kernel
theorem dX12_learn_181 : decode cX12_learn 181 = .ok (.ifCond .ne 23, 3) := by decide +kernel
theorem dX12_learn_184 : decode cX12_learn 184 = .ok (.aload_n 0, 1) := by decide +kernel
theorem dX12_learn_185 : decode cX12_learn 185 = .ok (.getfield 63, 3) := by decide +kernel
theorem dX12_learn_188 : decode cX12_learn 188 = .ok (.iload 8, 2) := by decide +kernel
theorem dX12_learn_190 : decode cX12_learn 190 = .ok (.aload_n 0, 1) := by decide +kernel
theorem dX12_learn_191 : decode cX12_learn 191 = .ok (.getfield 60, 3) := by decide +kernel
theorem dX12_learn_194 : decode cX12_learn 194 = .ok (.iload 8, 2) := by decide +kernel
theorem dX12_learn_196 : decode cX12_learn 196 = .ok (.iaload, 1) := by decide +kernel
theorem dX12_learn_197 : decode cX12_learn 197 = .ok (.iastore, 1) := by decide +kernel
theorem dX12_learn_198 : decode cX12_learn 198 = .ok (.iinc 8 1, 3) := by decide +kernel
theorem dX12_learn_201 : decode cX12_learn 201 = .ok (.goto (-31), 3) := by decide +kernel
theorem dX12_learn_204 : decode cX12_learn 204 = .ok (.iinc 4 1, 3) := by decide +kernel
theorem dX12_learn_207 : decode cX12_learn 207 = .ok (.iinc 5 1, 3) := by decide +kernel
theorem dX12_learn_210 : decode cX12_learn 210 = .ok (.goto (-132), 3) := by decide +kernel
theorem dX12_learn_213 : decode cX12_learn 213 = .ok (.iload_n 1, 1) := by decide +kernel
theorem dX12_learn_214 : decode cX12_learn 214 = .ok (.iconst (-1), 1) := by decide +kernel
theorem dX12_learn_215 : decode cX12_learn 215 = .ok (.if_icmp .ne 8, 3) := by decide +kernel
theorem dX12_learn_218 : decode cX12_learn 218 = .ok (.iload 4, 2) := by decide +kernel
theorem dX12_learn_220 : decode cX12_learn 220 = .ok (.goto 18, 3) := by decide +kernel
theorem dX12_learn_223 : decode cX12_learn 223 = .ok (.iload 4, 2) := by decide +kernel
theorem dX12_learn_225 : decode cX12_learn 225 = .ok (.ifCond .ne 7, 3) := by decide +kernel
theorem dX12_learn_228 : decode cX12_learn 228 = .ok (.iconst (-1), 1) := by decide +kernel
theorem dX12_learn_229 : decode cX12_learn 229 = .ok (.goto 9, 3) := by decide +kernel
theorem dX12_learn_232 : decode cX12_learn 232 = .ok (.aload_n 0, 1) := by decide +kernel
theorem dX12_learn_233 : decode cX12_learn 233 = .ok (.getfield 63, 3) := by decide +kernel
theorem dX12_learn_236 : decode cX12_learn 236 = .ok (.iload_n 1, 1) := by decide +kernel
theorem dX12_learn_237 : decode cX12_learn 237 = .ok (.iaload, 1) := by decide +kernel
theorem dX12_learn_238 : decode cX12_learn 238 = .ok (.ireturn, 1) := by decide +kernel
theorem dX12_fooled_0 : decode cX12_fooled 0 = .ok (.aload_n 0, 1) := by decide +kernel
theorem dX12_fooled_1 : decode cX12_fooled 1 = .ok (.iconst 0, 1) := by decide +kernel
theorem dX12_fooled_2 : decode cX12_fooled 2 = .ok (.putfield 3, 3) := by decide +kernel
theorem dX12_fooled_5 : decode cX12_fooled 5 = .ok (.aload_n 0, 1) := by decide +kernel
theorem dX12_fooled_6 : decode cX12_fooled 6 = .ok (.aload_n 0, 1) := by decide +kernel
theorem dX12_fooled_7 : decode cX12_fooled 7 = .ok (.iload_n 1, 1) := by decide +kernel
theorem dX12_fooled_8 : decode cX12_fooled 8 = .ok (.invokevirtual 257, 3) := by decide +kernel
theorem dX12_fooled_11 : decode cX12_fooled 11 = .ok (.ifCond .ne 11, 3) := by decide +kernel
theorem dX12_fooled_14 : decode cX12_fooled 14 = .ok (.aload_n 0, 1) := by decide +kernel
theorem dX12_fooled_15 : decode cX12_fooled 15 = .ok (.iload_n 2, 1) := by decide +kernel
theorem dX12_fooled_16 : decode cX12_fooled 16 = .ok (.invokevirtual 257, 3) := by decide +kernel
theorem dX12_fooled_19 : decode cX12_fooled 19 = .ok (.ifCond .eq 7, 3) := by decide +kernel
theorem dX12_fooled_22 : decode cX12_fooled 22 = .ok (.iconst 1, 1) := by decide +kernel
theorem dX12_fooled_23 : decode cX12_fooled 23 = .ok (.goto 4, 3) := by decide +kernel
theorem dX12_fooled_26 : decode cX12_fooled 26 = .ok (.iconst 0, 1) := by decide +kernel
theorem dX12_fooled_27 : decode cX12_fooled 27 = .ok (.iconst 1, 1) := by decide +kernel
theorem dX12_fooled_28 : decode cX12_fooled 28 = .ok (.invokevirtual 242, 3) := by decide +kernel
theorem dX12_fooled_31 : decode cX12_fooled 31 = .ok (.ifCond .ne 26, 3) := by decide +kernel
theorem dX12_fooled_34 : decode cX12_fooled 34 = .ok (.aload_n 0, 1) := by decide +kernel
theorem dX12_fooled_35 : decode cX12_fooled 35 = .ok (.iload_n 3, 1) := by decide +kernel
theorem dX12_fooled_36 : decode cX12_fooled 36 = .ok (.iconst 1, 1) := by decide +kernel
theorem dX12_fooled_37 : decode cX12_fooled 37 = .ok (.bipush 8, 2) := by decide +kernel
theorem dX12_fooled_39 : decode cX12_fooled 39 = .ok (.invokestatic 78, 3) := by decide +kernel
theorem dX12_fooled_42 : decode cX12_fooled 42 = .ok (.ifCond .ne 7, 3) := by decide +kernel
theorem dX12_fooled_45 : decode cX12_fooled 45 = .ok (.iconst 1, 1) := by decide +kernel
theorem dX12_fooled_46 : decode cX12_fooled 46 = .ok (.goto 4, 3) := by decide +kernel
theorem dX12_fooled_49 : decode cX12_fooled 49 = .ok (.iconst 0, 1) := by decide +kernel
theorem dX12_fooled_50 : decode cX12_fooled 50 = .ok (.iconst 2, 1) := by decide +kernel
theorem dX12_fooled_51 : decode cX12_fooled 51 = .ok (.invokevirtual 242, 3) := by decide +kernel
theorem dX12_fooled_54 : decode cX12_fooled 54 = .ok (.ifCond .eq 5, 3) := by decide +kernel
theorem dX12_fooled_57 : decode cX12_fooled 57 = .ok (.iconst 0, 1) := by decide +kernel
theorem dX12_fooled_58 : decode cX12_fooled 58 = .ok (.ireturn, 1) := by decide +kernel
theorem dX12_fooled_59 : decode cX12_fooled 59 = .ok (.iconst 0, 1) := by decide +kernel
theorem dX12_fooled_60 : decode cX12_fooled 60 = .ok (.istore 4, 2) := by decide +kernel
theorem dX12_fooled_62 : decode cX12_fooled 62 = .ok (.iconst 1, 1) := by decide +kernel
theorem dX12_fooled_63 : decode cX12_fooled 63 = .ok (.iload_n 3, 1) := by decide +kernel
theorem dX12_fooled_64 : decode cX12_fooled 64 = .ok (.ishl, 1) := by decide +kernel
theorem dX12_fooled_65 : decode cX12_fooled 65 = .ok (.istore 5, 2) := by decide +kernel
theorem dX12_fooled_67 : decode cX12_fooled 67 = .ok (.iload 5, 2) := by decide +kernel
theorem dX12_fooled_69 : decode cX12_fooled 69 = .ok (.iconst 2, 1) := by decide +kernel
theorem dX12_fooled_70 : decode cX12_fooled 70 = .ok (.iload_n 3, 1) := by decide +kernel
theorem dX12_fooled_71 : decode cX12_fooled 71 = .ok (.ishl, 1) := by decide +kernel
theorem dX12_fooled_72 : decode cX12_fooled 72 = .ok (.if_icmp .ge 47, 3) := by decide +kernel
theorem dX12_fooled_75 : decode cX12_fooled 75 = .ok (.aload_n 0, 1) := by decide +kernel
theorem dX12_fooled_76 : decode cX12_fooled 76 = .ok (.iload_n 2, 1) := by decide +kernel
theorem dX12_fooled_77 : decode cX12_fooled 77 = .ok (.iload_n 1, 1) := by decide +kernel
theorem dX12_fooled_78 : decode cX12_fooled 78 = .ok (.invokevirtual 251, 3) := by decide +kernel
theorem dX12_fooled_81 : decode cX12_fooled 81 = .ok (.ifCond .eq 38, 3) := by decide +kernel
theorem dX12_fooled_84 : decode cX12_fooled 84 = .ok (.iload 4, 2) := by decide +kernel
theorem dX12_fooled_86 : decode cX12_fooled 86 = .ok (.aload_n 0, 1) := by decide +kernel
theorem dX12_fooled_87 : decode cX12_fooled 87 = .ok (.iload_n 1, 1) := by decide +kernel
theorem dX12_fooled_88 : decode cX12_fooled 88 = .ok (.iload 5, 2) := by decide +kernel
theorem dX12_fooled_90 : decode cX12_fooled 90 = .ok (.aload_n 0, 1) := by decide +kernel
theorem dX12_fooled_91 : decode cX12_fooled 91 = .ok (.iload_n 2, 1) := by decide +kernel
theorem dX12_fooled_92 : decode cX12_fooled 92 = .ok (.iload_n 1, 1) := by decide +kernel
theorem dX12_fooled_93 : decode cX12_fooled 93 = .ok (.invokevirtual 271, 3) := by decide +kernel
theorem dX12_fooled_96 : decode cX12_fooled 96 = .ok (.invokestatic 99, 3) := by decide +kernel
theorem dX12_fooled_99 : decode cX12_fooled 99 = .ok (.invokevirtual 296, 3) := by decide +kernel
theorem dX12_fooled_102 : decode cX12_fooled 102 = .ok (.ifCond .lt 7, 3) := by decide +kernel
theorem dX12_fooled_105 : decode cX12_fooled 105 = .ok (.iconst 1, 1) := by decide +kernel
theorem dX12_fooled_106 : decode cX12_fooled 106 = .ok (.goto 4, 3) := by decide +kernel
theorem dX12_fooled_109 : decode cX12_fooled 109 = .ok (.iconst 0, 1) := by decide +kernel
theorem dX12_fooled_110 : decode cX12_fooled 110 = .ok (.iadd, 1) := by decide +kernel
theorem dX12_fooled_111 : decode cX12_fooled 111 = .ok (.istore 4, 2) := by decide +kernel
theorem dX12_fooled_113 : decode cX12_fooled 113 = .ok (.iinc 5 1, 3) := by decide +kernel
theorem dX12_fooled_116 : decode cX12_fooled 116 = .ok (.goto (-49), 3) := by decide +kernel
theorem dX12_fooled_119 : decode cX12_fooled 119 = .ok (.iload 4, 2) := by decide +kernel
theorem dX12_fooled_121 : decode cX12_fooled 121 = .ok (.ireturn, 1) := by decide +kernel
theorem dX12_count_0 : decode cX12_count 0 = .ok (.aload_n 0, 1) := by decide +kernel
theorem dX12_count_1 : decode cX12_count 1 = .ok (.iconst 0, 1) := by decide +kernel
theorem dX12_count_2 : decode cX12_count 2 = .ok (.putfield 3, 3) := by decide +kernel
theorem dX12_count_5 : decode cX12_count 5 = .ok (.iconst 0, 1) := by decide +kernel
theorem dX12_count_6 : decode cX12_count 6 = .ok (.istore_n 2, 1) := by decide +kernel
theorem dX12_count_7 : decode cX12_count 7 = .ok (.iload_n 1, 1) := by decide +kernel
theorem dX12_count_8 : decode cX12_count 8 = .ok (.tableswitch 232 0 10 #[60, 65, 70, 77, 100, 107, 133, 160, 167, 175, 183], 60) := by decide +kernel
theorem dX12_count_68 : decode cX12_count 68 = .ok (.aload_n 0, 1) := by decide +kernel
theorem dX12_count_69 : decode cX12_count 69 = .ok (.invokevirtual 74, 3) := by decide +kernel
theorem dX12_count_72 : decode cX12_count 72 = .ok (.ireturn, 1) := by decide +kernel
theorem dX12_count_73 : decode cX12_count 73 = .ok (.aload_n 0, 1) := by decide +kernel
theorem dX12_count_74 : decode cX12_count 74 = .ok (.invokevirtual 82, 3) := by decide +kernel
theorem dX12_count_77 : decode cX12_count 77 = .ok (.ireturn, 1) := by decide +kernel
theorem dX12_count_78 : decode cX12_count 78 = .ok (.aload_n 0, 1) := by decide +kernel
theorem dX12_count_79 : decode cX12_count 79 = .ok (.getfield 13, 3) := by decide +kernel
theorem dX12_count_82 : decode cX12_count 82 = .ok (.iconst 2, 1) := by decide +kernel
theorem dX12_count_83 : decode cX12_count 83 = .ok (.iaload, 1) := by decide +kernel
theorem dX12_count_84 : decode cX12_count 84 = .ok (.ireturn, 1) := by decide +kernel
theorem dX12_count_85 : decode cX12_count 85 = .ok (.aload_n 0, 1) := by decide +kernel
theorem dX12_count_86 : decode cX12_count 86 = .ok (.getfield 13, 3) := by decide +kernel
theorem dX12_count_89 : decode cX12_count 89 = .ok (.iconst 3, 1) := by decide +kernel
theorem dX12_count_90 : decode cX12_count 90 = .ok (.iaload, 1) := by decide +kernel
theorem dX12_count_91 : decode cX12_count 91 = .ok (.iconst 1, 1) := by decide +kernel
theorem dX12_count_92 : decode cX12_count 92 = .ok (.if_icmp .ne 14, 3) := by decide +kernel
theorem dX12_count_95 : decode cX12_count 95 = .ok (.aload_n 0, 1) := by decide +kernel
theorem dX12_count_96 : decode cX12_count 96 = .ok (.getfield 13, 3) := by decide +kernel
theorem dX12_count_99 : decode cX12_count 99 = .ok (.sipush 186, 3) := by decide +kernel
theorem dX12_count_102 : decode cX12_count 102 = .ok (.iaload, 1) := by decide +kernel
theorem dX12_count_103 : decode cX12_count 103 = .ok (.goto 4, 3) := by decide +kernel
theorem dX12_count_106 : decode cX12_count 106 = .ok (.iconst (-1), 1) := by decide +kernel
theorem dX12_count_107 : decode cX12_count 107 = .ok (.ireturn, 1) := by decide +kernel
theorem dX12_count_108 : decode cX12_count 108 = .ok (.aload_n 0, 1) := by decide +kernel
theorem dX12_count_109 : decode cX12_count 109 = .ok (.getfield 13, 3) := by decide +kernel
theorem dX12_count_112 : decode cX12_count 112 = .ok (.iconst 4, 1) := by decide +kernel
theorem dX12_count_113 : decode cX12_count 113 = .ok (.iaload, 1) := by decide +kernel
theorem dX12_count_114 : decode cX12_count 114 = .ok (.ireturn, 1) := by decide +kernel
theorem dX12_count_115 : decode cX12_count 115 = .ok (.iconst 0, 1) := by decide +kernel
theorem dX12_count_116 : decode cX12_count 116 = .ok (.istore_n 3, 1) := by decide +kernel
theorem dX12_count_117 : decode cX12_count 117 = .ok (.iload_n 3, 1) := by decide +kernel
theorem dX12_count_118 : decode cX12_count 118 = .ok (.aload_n 0, 1) := by decide +kernel
theorem dX12_count_119 : decode cX12_count 119 = .ok (.invokevirtual 74, 3) := by decide +kernel
theorem dX12_count_122 : decode cX12_count 122 = .ok (.if_icmp .ge 17, 3) := by decide +kernel
theorem dX12_count_125 : decode cX12_count 125 = .ok (.iload_n 2, 1) := by decide +kernel
theorem dX12_count_126 : decode cX12_count 126 = .ok (.aload_n 0, 1) := by decide +kernel
theorem dX12_count_127 : decode cX12_count 127 = .ok (.iload_n 3, 1) := by decide +kernel
theorem dX12_count_128 : decode cX12_count 128 = .ok (.invokevirtual 260, 3) := by decide +kernel
theorem dX12_count_131 : decode cX12_count 131 = .ok (.iadd, 1) := by decide +kernel
theorem dX12_count_132 : decode cX12_count 132 = .ok (.istore_n 2, 1) := by decide +kernel
theorem dX12_count_133 : decode cX12_count 133 = .ok (.iinc 3 1, 3) := by decide +kernel
theorem dX12_count_136 : decode cX12_count 136 = .ok (.goto (-19), 3) := by decide +kernel
theorem dX12_count_139 : decode cX12_count 139 = .ok (.iload_n 2, 1) := by decide +kernel
theorem dX12_count_140 : decode cX12_count 140 = .ok (.ireturn, 1) := by decide +kernel
theorem dX12_count_141 : decode cX12_count 141 = .ok (.iconst 0, 1) := by decide +kernel
theorem dX12_count_142 : decode cX12_count 142 = .ok (.istore_n 3, 1) := by decide +kernel
theorem dX12_count_143 : decode cX12_count 143 = .ok (.iload_n 3, 1) := by decide +kernel
theorem dX12_count_144 : decode cX12_count 144 = .ok (.aload_n 0, 1) := by decide +kernel
theorem dX12_count_145 : decode cX12_count 145 = .ok (.invokevirtual 74, 3) := by decide +kernel
theorem dX12_count_148 : decode cX12_count 148 = .ok (.if_icmp .ge 18, 3) := by decide +kernel
theorem dX12_count_151 : decode cX12_count 151 = .ok (.iload_n 2, 1) := by decide +kernel
theorem dX12_count_152 : decode cX12_count 152 = .ok (.aload_n 0, 1) := by decide +kernel
theorem dX12_count_153 : decode cX12_count 153 = .ok (.iload_n 3, 1) := by decide +kernel
theorem dX12_count_154 : decode cX12_count 154 = .ok (.iconst 3, 1) := by decide +kernel
theorem dX12_count_155 : decode cX12_count 155 = .ok (.invokevirtual 70, 3) := by decide +kernel
theorem dX12_count_158 : decode cX12_count 158 = .ok (.iadd, 1) := by decide +kernel
theorem dX12_count_159 : decode cX12_count 159 = .ok (.istore_n 2, 1) := by decide +kernel
theorem dX12_count_160 : decode cX12_count 160 = .ok (.iinc 3 1, 3) := by decide +kernel
theorem dX12_count_163 : decode cX12_count 163 = .ok (.goto (-20), 3) := by decide +kernel
theorem dX12_count_166 : decode cX12_count 166 = .ok (.iload_n 2, 1) := by decide +kernel
theorem dX12_count_167 : decode cX12_count 167 = .ok (.ireturn, 1) := by decide +kernel
theorem dX12_count_168 : decode cX12_count 168 = .ok (.aload_n 0, 1) := by decide +kernel
theorem dX12_count_169 : decode cX12_count 169 = .ok (.getfield 13, 3) := by decide +kernel
theorem dX12_count_172 : decode cX12_count 172 = .ok (.iconst 5, 1) := by decide +kernel
theorem dX12_count_173 : decode cX12_count 173 = .ok (.iaload, 1) := by decide +kernel
theorem dX12_count_174 : decode cX12_count 174 = .ok (.ireturn, 1) := by decide +kernel
theorem dX12_count_175 : decode cX12_count 175 = .ok (.aload_n 0, 1) := by decide +kernel
theorem dX12_count_176 : decode cX12_count 176 = .ok (.getfield 13, 3) := by decide +kernel
theorem dX12_count_179 : decode cX12_count 179 = .ok (.bipush 6, 2) := by decide +kernel
theorem dX12_count_181 : decode cX12_count 181 = .ok (.iaload, 1) := by decide +kernel
theorem dX12_count_182 : decode cX12_count 182 = .ok (.ireturn, 1) := by decide +kernel
theorem dX12_count_183 : decode cX12_count 183 = .ok (.aload_n 0, 1) := by decide +kernel
theorem dX12_count_184 : decode cX12_count 184 = .ok (.getfield 13, 3) := by decide +kernel
theorem dX12_count_187 : decode cX12_count 187 = .ok (.bipush 7, 2) := by decide +kernel
theorem dX12_count_189 : decode cX12_count 189 = .ok (.iaload, 1) := by decide +kernel
theorem dX12_count_190 : decode cX12_count 190 = .ok (.ireturn, 1) := by decide +kernel
theorem dX12_count_191 : decode cX12_count 191 = .ok (.iconst 0, 1) := by decide +kernel
theorem dX12_count_192 : decode cX12_count 192 = .ok (.istore_n 3, 1) := by decide +kernel
theorem dX12_count_193 : decode cX12_count 193 = .ok (.iload_n 3, 1) := by decide +kernel
theorem dX12_count_194 : decode cX12_count 194 = .ok (.aload_n 0, 1) := by decide +kernel
theorem dX12_count_195 : decode cX12_count 195 = .ok (.invokevirtual 74, 3) := by decide +kernel
theorem dX12_count_198 : decode cX12_count 198 = .ok (.if_icmp .ge 40, 3) := by decide +kernel
theorem dX12_count_201 : decode cX12_count 201 = .ok (.iconst 0, 1) := by decide +kernel
theorem dX12_count_202 : decode cX12_count 202 = .ok (.istore 4, 2) := by decide +kernel
theorem dX12_count_204 : decode cX12_count 204 = .ok (.iload 4, 2) := by decide +kernel
theorem dX12_count_206 : decode cX12_count 206 = .ok (.aload_n 0, 1) := by decide +kernel
theorem dX12_count_207 : decode cX12_count 207 = .ok (.invokevirtual 82, 3) := by decide +kernel
theorem dX12_count_210 : decode cX12_count 210 = .ok (.if_icmp .ge 22, 3) := by decide +kernel
theorem dX12_count_213 : decode cX12_count 213 = .ok (.iload_n 2, 1) := by decide +kernel
theorem dX12_count_214 : decode cX12_count 214 = .ok (.aload_n 0, 1) := by decide +kernel
theorem dX12_count_215 : decode cX12_count 215 = .ok (.iload_n 3, 1) := by decide +kernel
theorem dX12_count_216 : decode cX12_count 216 = .ok (.iload 4, 2) := by decide +kernel
theorem dX12_count_218 : decode cX12_count 218 = .ok (.invokevirtual 254, 3) := by decide +kernel
theorem dX12_count_221 : decode cX12_count 221 = .ok (.invokestatic 268, 3) := by decide +kernel
theorem dX12_count_224 : decode cX12_count 224 = .ok (.iadd, 1) := by decide +kernel
theorem dX12_count_225 : decode cX12_count 225 = .ok (.istore_n 2, 1) := by decide +kernel
theorem dX12_count_226 : decode cX12_count 226 = .ok (.iinc 4 1, 3) := by decide +kernel
theorem dX12_count_229 : decode cX12_count 229 = .ok (.goto (-25), 3) := by decide +kernel
theorem dX12_count_232 : decode cX12_count 232 = .ok (.iinc 3 1, 3) := by decide +kernel
theorem dX12_count_235 : decode cX12_count 235 = .ok (.goto (-42), 3) := by decide +kernel
theorem dX12_count_238 : decode cX12_count 238 = .ok (.iload_n 2, 1) := by decide +kernel
theorem dX12_count_239 : decode cX12_count 239 = .ok (.ireturn, 1) := by decide +kernel
theorem dX12_count_240 : decode cX12_count 240 = .ok (.iconst (-1), 1) := by decide +kernel
theorem dX12_count_241 : decode cX12_count 241 = .ok (.ireturn, 1) := by decide +kernel
